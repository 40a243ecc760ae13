theorem dX8_find_0 : decode cX8_find 0 = .ok (.iconst 0, 1) := by decide +kernel
theorem dX8_find_1 : decode cX8_find 1 = .ok (.istore_n 3, 1) := by decide +kernel
theorem dX8_find_2 : decode cX8_find 2 = .ok (.iload_n 3, 1) := by decide +kernel
theorem dX8_find_3 : decode cX8_find 3 = .ok (.aload_n 0, 1) := by decide +kernel
theorem dX8_find_4 : decode cX8_find 4 = .ok (.getfield 106, 3) := by decide +kernel
theorem dX8_find_7 : decode cX8_find 7 = .ok (.if_icmp .ge 24, 3) := by decide +kernel
theorem dX8_find_10 : decode cX8_find 10 = .ok (.aload_n 0, 1) := by decide +kernel
theorem dX8_find_11 : decode cX8_find 11 = .ok (.getfield 78, 3) := by decide +kernel
theorem dX8_find_14 : decode cX8_find 14 = .ok (.iload_n 3, 1) := by decide +kernel
theorem dX8_find_15 : decode cX8_find 15 = .ok (.aload_n 0, 1) := by decide +kernel
theorem dX8_find_16 : decode cX8_find 16 = .ok (.getfield 57, 3) := by decide +kernel
theorem dX8_find_19 : decode cX8_find 19 = .ok (.iload_n 3, 1) := by decide +kernel
theorem dX8_find_20 : decode cX8_find 20 = .ok (.iaload, 1) := by decide +kernel
theorem dX8_find_21 : decode cX8_find 21 = .ok (.invokestatic 96, 3) := by decide +kernel
theorem dX8_find_24 : decode cX8_find 24 = .ok (.iastore, 1) := by decide +kernel
theorem dX8_find_25 : decode cX8_find 25 = .ok (.iinc 3 1, 3) := by decide +kernel
theorem dX8_find_28 : decode cX8_find 28 = .ok (.goto (-26), 3) := by decide +kernel
theorem dX8_find_31 : decode cX8_find 31 = .ok (.iconst 1, 1) := by decide +kernel
theorem dX8_find_32 : decode cX8_find 32 = .ok (.istore_n 3, 1) := by decide +kernel
theorem dX8_find_33 : decode cX8_find 33 = .ok (.iload_n 3, 1) := by decide +kernel
theorem dX8_find_34 : decode cX8_find 34 = .ok (.iload_n 1, 1) := by decide +kernel
theorem dX8_find_35 : decode cX8_find 35 = .ok (.if_icmp .gt 20, 3) := by decide +kernel
theorem dX8_find_38 : decode cX8_find 38 = .ok (.aload_n 0, 1) := by decide +kernel
theorem dX8_find_39 : decode cX8_find 39 = .ok (.iload_n 3, 1) := by decide +kernel
theorem dX8_find_40 : decode cX8_find 40 = .ok (.iload_n 2, 1) := by decide +kernel
theorem dX8_find_41 : decode cX8_find 41 = .ok (.invokevirtual 244, 3) := by decide +kernel
theorem dX8_find_44 : decode cX8_find 44 = .ok (.ifCond .eq 5, 3) := by decide +kernel
theorem dX8_find_47 : decode cX8_find 47 = .ok (.iconst 1, 1) := by decide +kernel
theorem dX8_find_48 : decode cX8_find 48 = .ok (.ireturn, 1) := by decide +kernel
theorem dX8_find_49 : decode cX8_find 49 = .ok (.iinc 3 1, 3) := by decide +kernel
theorem dX8_find_52 : decode cX8_find 52 = .ok (.goto (-19), 3) := by decide +kernel
theorem dX8_find_55 : decode cX8_find 55 = .ok (.iconst 0, 1) := by decide +kernel
theorem dX8_find_56 : decode cX8_find 56 = .ok (.ireturn, 1) := by decide +kernel
set_option maxHeartbeats 4000000 in
set_option maxRecDepth 100000 in
theorem c_X8_find (l : Launch) (E : fEv) (N : Nat) (a1 : Int32) (a2 : Int32) (σ : fS) (r : Int32) (τ : fS) (hG : g_X8_find N a1 a2 σ = some (r, τ)) : fM l E yX8_find (.code yX8_find cX8_find 4 (some .boolean)) rm_X8_find [.ref (E.2.1 61), .int a1, .int a2] σ τ (some (.int r)) := by
  refine f_openZ (by decide) (Nat.le_of_ble_eq_true rfl) ?_
  intro p e s m below meth c args Q F hR hP ls hl
  have hx := F.1.1
  have hb := F.1.2.1
  have hown := F.1.2.2.2.1
  have hts := F.1.2.2.2.2
  have hS : va_S (f_A E) s.heap s.heap [] := va_S.rf
  skip
  have hl : lv_has ls 4 [(0, .ref (E.2.1 61)), (1, .int a1), (2, .int a2)] := hl
  unfold g_X8_find at hG
  refine lv_iconst (v := 0) hx hb dX8_find_0 (by decide) ?_
  refine lv_istore_n (lv' := [(3, .int (0 : Int32)), (0, .ref (E.2.1 61)), (1, .int a1), (2, .int a2)]) hx hb dX8_find_1 rfl hl (by decide) rfl (fun ls hl => ?_)
  obtain ⟨σl2, hT2, hG⟩ := f_bv hG
  have T2 : ∀ (H : Heap) (locs : List Loc) (ls : Array Slot), f_h E σl2 H → va_S (f_A E) s.heap H locs → lv_has ls 4 [(0, .ref (E.2.1 61)), (1, .int a1), (2, .int a2)] → W p l e rm_X8_find s m args below meth c H locs 0 0 Q (F0 m 31 ls []) := by
    intro H locs ls hP hS hl
    refine lv_iconst (v := 1) hx hb dX8_find_31 (by decide) ?_
    refine lv_istore_n (lv' := [(3, .int (1 : Int32)), (0, .ref (E.2.1 61)), (1, .int a1), (2, .int a2)]) hx hb dX8_find_32 rfl hl (by decide) rfl (fun ls hl => ?_)
    obtain ⟨z33, hT33, hB33⟩ := f_bs hG
    have T33 : ∀ (o33 : Unit) (σl33 : fS) (H : Heap) (locs : List Loc) (ls : Array Slot), z33 = .inr (o33, σl33) → f_h E σl33 H → va_S (f_A E) s.heap H locs → lv_has ls 4 [] → W p l e rm_X8_find s m args below meth c H locs 0 0 Q (F0 m 55 ls []) := by
      intro o33 σl33 H locs ls hz hP hS hl
      rw [hz] at hB33
      have hG := hB33
      replace hG := f_bs_r hG
      refine lv_iconst (v := 0) hx hb dX8_find_55 (by decide) ?_
      exact x_rz hR hS hP (Or.inl rfl) hG dX8_find_56
    have L33 : ∀ (n33 : Nat) (x33_3 : Int32) (σh33 : fS) (H : Heap) (locs : List Loc) (ls : Array Slot), f_h E σh33 H → va_S (f_A E) s.heap H locs → lv_has ls 4 [(0, .ref (E.2.1 61)), (1, .int a1), (2, .int a2), (3, .int x33_3)] → lp_X8_find_33 N a1 a2 n33 x33_3 σh33 = some z33 → W p l e rm_X8_find s m args below meth c H locs 0 0 Q (F0 m 33 ls []) := by
      intro n33
      induction n33 with
      | zero =>
        intro x33_3 σh33 H locs ls hP hS hl hG
        rw [lp_X8_find_33] at hG
        cases hG
      | succ n33 ih33 =>
        intro x33_3 σh33 H locs ls hP hS hl hG
        rw [lp_X8_find_33] at hG
        refine lv_iload_n hx hb dX8_find_33 rfl (lv_at hl 3 rfl) ?_
        refine lv_iload_n hx hb dX8_find_34 rfl (lv_at hl 1 rfl) ?_
        refine lv_icmp_gt (tgt := 55) hx hb dX8_find_35 (by decide) (fun c35 => ?_) (fun c35 => ?_)
        · have hG := f_ip c35 hG
          exact T33 _ _ _ _ _ (Option.some.inj hG).symm hP hS (lv_sub hl [] rfl)
        · have hG := f_in c35 hG
          refine lv_aload_n hx hb dX8_find_38 rfl (lv_at hl 0 rfl) ?_
          refine lv_iload_n hx hb dX8_find_39 rfl (lv_at hl 3 rfl) ?_
          refine lv_iload_n hx hb dX8_find_40 rfl (lv_at hl 2 rfl) ?_
          obtain ⟨r41, σ41, hC41, hG⟩ := f_bd hG
          refine iv_X8_244 F hS hP (c_X8_findBy l E N x33_3 a2 σh33 _ _ hC41) ⟨Nat.le_of_ble_eq_true rfl, Nat.le_of_ble_eq_true rfl⟩ hl.1 (Nat.le_of_ble_eq_true rfl) dX8_find_41 ⟨Nat.zero_le _, Nat.zero_le _⟩ (fun H locs hP hS => ?_)
          refine lv_if_eq (tgt := 49) hx hb dX8_find_44 (by decide) (fun c44 => ?_) (fun c44 => ?_)
          · have hG := f_ip c44 hG
            refine lv_iinc (v := (x33_3 + (1 : Int32))) (lv' := [(3, .int (x33_3 + (1 : Int32))), (0, .ref (E.2.1 61)), (1, .int a1), (2, .int a2)]) hx hb dX8_find_49 hl (k := 3) rfl (by rfl) (by decide) rfl (fun ls hl => ?_)
            refine lv_goto (tgt := 33) hx hb dX8_find_52 (by decide) ?_
            exact ih33 (x33_3 + (1 : Int32)) σ41 _ _ _ hP hS (lv_sub hl [1, 2, 3, 0] rfl) hG
          · have hG := f_in c44 hG
            refine lv_iconst (v := 1) hx hb dX8_find_47 (by decide) ?_
            have hG := f_bs_l hB33 hG
            exact x_rz hR hS hP (Or.inr rfl) hG dX8_find_48
    exact L33 N (1 : Int32) σl2 _ _ _ hP hS (lv_sub hl [1, 2, 3, 0] rfl) hT33
  have L2 : ∀ (n2 : Nat) (x2_3 : Int32) (σh2 : fS) (H : Heap) (locs : List Loc) (ls : Array Slot), f_h E σh2 H → va_S (f_A E) s.heap H locs → lv_has ls 4 [(0, .ref (E.2.1 61)), (1, .int a1), (2, .int a2), (3, .int x2_3)] → lp_X8_find_2 N a1 a2 n2 x2_3 σh2 = some σl2 → W p l e rm_X8_find s m args below meth c H locs 0 0 Q (F0 m 2 ls []) := by
    intro n2
    induction n2 with
    | zero =>
      intro x2_3 σh2 H locs ls hP hS hl hG
      rw [lp_X8_find_2] at hG
      cases hG
    | succ n2 ih2 =>
      intro x2_3 σh2 H locs ls hP hS hl hG
      rw [lp_X8_find_2] at hG
      refine lv_iload_n hx hb dX8_find_2 rfl (lv_at hl 3 rfl) ?_
      refine lv_aload_n hx hb dX8_find_3 rfl (lv_at hl 0 rfl) ?_
      refine gf_X8_106 F hP dX8_find_4 ?_
      refine lv_icmp_ge (tgt := 31) hx hb dX8_find_7 (by decide) (fun c7 => ?_) (fun c7 => ?_)
      · have hG := f_ip c7 hG
        cases hG
        exact T2 _ _ _ hP hS (lv_sub hl [0, 1, 2] rfl)
      · have hG := f_in c7 hG
        refine lv_aload_n hx hb dX8_find_10 rfl (lv_at hl 0 rfl) ?_
        refine gf_X8_78 F hP dX8_find_11 ?_
        refine lv_iload_n hx hb dX8_find_14 rfl (lv_at hl 3 rfl) ?_
        refine lv_aload_n hx hb dX8_find_15 rfl (lv_at hl 0 rfl) ?_
        refine gf_X8_57 F hP dX8_find_16 ?_
        refine lv_iload_n hx hb dX8_find_19 rfl (lv_at hl 3 rfl) ?_
        obtain ⟨h20, hG⟩ := f_gd hG
        have i20 := f_fin h20
        refine x_iald F hP rfl rfl i20 dX8_find_20 ?_
        obtain ⟨r21, σ21, hC21, hG⟩ := f_bd hG
        refine iv_X8_96 F hS hP (c_X8_coreOf l E N (σh2.1 77 (x2_3).toNatClampNeg) σh2 _ _ hC21) ⟨Nat.le_of_ble_eq_true rfl, Nat.le_of_ble_eq_true rfl⟩ hl.1 (Nat.le_of_ble_eq_true rfl) dX8_find_21 ⟨Nat.zero_le _, Nat.zero_le _⟩ (fun H locs hP hS => ?_)
        obtain ⟨h24, hG⟩ := f_gd hG
        have i24 := f_fin h24
        refine x_iast F hS hP rfl rfl i24 dX8_find_24 (fun H locs hP hS => ?_)
        obtain ⟨σ24, e24⟩ : ∃ t : fS, t = sI σ21 84 (x2_3).toNatClampNeg r21 := ⟨_, rfl⟩
        rw [← e24] at hP
        have hG := f_lt hG e24
        refine lv_iinc (v := (x2_3 + (1 : Int32))) (lv' := [(3, .int (x2_3 + (1 : Int32))), (0, .ref (E.2.1 61)), (1, .int a1), (2, .int a2)]) hx hb dX8_find_25 hl (k := 3) rfl (by rfl) (by decide) rfl (fun ls hl => ?_)
        refine lv_goto (tgt := 2) hx hb dX8_find_28 (by decide) ?_
        exact ih2 (x2_3 + (1 : Int32)) σ24 _ _ _ hP hS (lv_sub hl [1, 2, 3, 0] rfl) hG
  exact L2 N (0 : Int32) σ _ _ _ hP hS (lv_sub hl [1, 2, 3, 0] rfl) hT2
theorem dX8_row_0 : decode cX8_row 0 = .ok (.aload_n 0, 1) := by decide +kernel
theorem dX8_row_1 : decode cX8_row 1 = .ok (.iload_n 1, 1) := by decide +kernel
theorem dX8_row_2 : decode cX8_row 2 = .ok (.iload_n 2, 1) := by decide +kernel
theorem dX8_row_3 : decode cX8_row 3 = .ok (.invokevirtual 183, 3) := by decide +kernel
theorem dX8_row_6 : decode cX8_row 6 = .ok (.ifCond .ne 6, 3) := by decide +kernel
theorem dX8_row_9 : decode cX8_row 9 = .ok (.bipush (-101), 2) := by decide +kernel
theorem dX8_row_11 : decode cX8_row 11 = .ok (.ireturn, 1) := by decide +kernel
theorem dX8_row_12 : decode cX8_row 12 = .ok (.aload_n 0, 1) := by decide +kernel
theorem dX8_row_13 : decode cX8_row 13 = .ok (.iload_n 1, 1) := by decide +kernel
theorem dX8_row_14 : decode cX8_row 14 = .ok (.invokevirtual 190, 3) := by decide +kernel
theorem dX8_row_17 : decode cX8_row 17 = .ok (.aload_n 0, 1) := by decide +kernel
theorem dX8_row_18 : decode cX8_row 18 = .ok (.bipush 15, 2) := by decide +kernel
theorem dX8_row_20 : decode cX8_row 20 = .ok (.iconst 0, 1) := by decide +kernel
theorem dX8_row_21 : decode cX8_row 21 = .ok (.invokevirtual 248, 3) := by decide +kernel
theorem dX8_row_24 : decode cX8_row 24 = .ok (.ifCond .eq 12, 3) := by decide +kernel
theorem dX8_row_27 : decode cX8_row 27 = .ok (.aload_n 0, 1) := by decide +kernel
theorem dX8_row_28 : decode cX8_row 28 = .ok (.getfield 75, 3) := by decide +kernel
theorem dX8_row_31 : decode cX8_row 31 = .ok (.iload_n 2, 1) := by decide +kernel
theorem dX8_row_32 : decode cX8_row 32 = .ok (.iaload, 1) := by decide +kernel
theorem dX8_row_33 : decode cX8_row 33 = .ok (.goto 4, 3) := by decide +kernel
theorem dX8_row_36 : decode cX8_row 36 = .ok (.iconst (-1), 1) := by decide +kernel
theorem dX8_row_37 : decode cX8_row 37 = .ok (.ireturn, 1) := by decide +kernel
set_option maxHeartbeats 4000000 in
set_option maxRecDepth 100000 in
theorem c_X8_row (l : Launch) (E : fEv) (N : Nat) (a1 : Int32) (a2 : Int32) (σ : fS) (r : Int32) (τ : fS) (hG : g_X8_row N a1 a2 σ = some (r, τ)) : fM l E yX8_row (.code yX8_row cX8_row 3 (some .int)) rm_X8_row [.ref (E.2.1 61), .int a1, .int a2] σ τ (some (.int r)) := by
  refine f_openI (by decide) (Nat.le_of_ble_eq_true rfl) ?_
  intro p e s m below meth c args Q F hR hP ls hl
  have hx := F.1.1
  have hb := F.1.2.1
  have hown := F.1.2.2.2.1
  have hts := F.1.2.2.2.2
  have hS : va_S (f_A E) s.heap s.heap [] := va_S.rf
  skip
  have hl : lv_has ls 3 [(0, .ref (E.2.1 61)), (1, .int a1), (2, .int a2)] := hl
  unfold g_X8_row at hG
  refine lv_aload_n hx hb dX8_row_0 rfl (lv_at hl 0 rfl) ?_
  refine lv_iload_n hx hb dX8_row_1 rfl (lv_at hl 1 rfl) ?_
  refine lv_iload_n hx hb dX8_row_2 rfl (lv_at hl 2 rfl) ?_
  obtain ⟨r3, σ3, hC3, hG⟩ := f_bd hG
  refine iv_X8_183 F hS hP (c_X8_isTerm l E N a1 a2 σ _ _ hC3) ⟨Nat.le_of_ble_eq_true rfl, Nat.le_of_ble_eq_true rfl⟩ hl.1 (Nat.le_of_ble_eq_true rfl) dX8_row_3 ⟨Nat.zero_le _, Nat.zero_le _⟩ (fun H locs hP hS => ?_)
  refine lv_if_ne (tgt := 12) hx hb dX8_row_6 (by decide) (fun c6 => ?_) (fun c6 => ?_)
  · have hG := f_in c6 hG
    refine lv_aload_n hx hb dX8_row_12 rfl (lv_at hl 0 rfl) ?_
    refine lv_iload_n hx hb dX8_row_13 rfl (lv_at hl 1 rfl) ?_
    obtain ⟨σ14, hC14, hG⟩ := f_bv hG
    refine iv_X8_190 F hS hP (c_X8_lookAt l E N a1 σ3 _ hC14) ⟨Nat.le_of_ble_eq_true rfl, Nat.le_of_ble_eq_true rfl⟩ hl.1 (Nat.le_of_ble_eq_true rfl) dX8_row_14 ⟨Nat.zero_le _, Nat.zero_le _⟩ (fun H locs hP hS => ?_)
    refine lv_aload_n hx hb dX8_row_17 rfl (lv_at hl 0 rfl) ?_
    refine lv_bipush (v := 15) hx hb dX8_row_18 (by decide) ?_
    refine lv_iconst (v := 0) hx hb dX8_row_20 (by decide) ?_
    obtain ⟨r21, σ21, hC21, hG⟩ := f_bd hG
    refine iv_X8_248 F hS hP (c_X8_find l E N (15 : Int32) (0 : Int32) σ14 _ _ hC21) ⟨Nat.le_of_ble_eq_true rfl, Nat.le_of_ble_eq_true rfl⟩ hl.1 (Nat.le_of_ble_eq_true rfl) dX8_row_21 ⟨Nat.zero_le _, Nat.zero_le _⟩ (fun H locs hP hS => ?_)
    refine lv_if_eq (tgt := 36) hx hb dX8_row_24 (by decide) (fun c24 => ?_) (fun c24 => ?_)
    · have hG := f_ip c24 hG
      refine lv_iconst (v := -1) hx hb dX8_row_36 (by decide) ?_
      exact x_ri hR hS hP hG dX8_row_37
    · have hG := f_in c24 hG
      refine lv_aload_n hx hb dX8_row_27 rfl (lv_at hl 0 rfl) ?_
      refine gf_X8_75 F hP dX8_row_28 ?_
      refine lv_iload_n hx hb dX8_row_31 rfl (lv_at hl 2 rfl) ?_
      obtain ⟨h32, hG⟩ := f_gd hG
      have i32 := f_fin h32
      refine x_iald F hP rfl rfl i32 dX8_row_32 ?_
      refine lv_goto (tgt := 37) hx hb dX8_row_33 (by decide) ?_
      exact x_ri hR hS hP hG dX8_row_37
  · have hG := f_ip c6 hG
    refine lv_bipush (v := -101) hx hb dX8_row_9 (by decide) ?_
    exact x_ri hR hS hP hG dX8_row_11
theorem dX8_way_0 : decode cX8_way 0 = .ok (.aload_n 0, 1) := by decide +kernel
theorem dX8_way_1 : decode cX8_way 1 = .ok (.iload_n 1, 1) := by decide +kernel
theorem dX8_way_2 : decode cX8_way 2 = .ok (.invokevirtual 155, 3) := by decide +kernel
theorem dX8_way_5 : decode cX8_way 5 = .ok (.ifCond .eq 17, 3) := by decide +kernel
theorem dX8_way_8 : decode cX8_way 8 = .ok (.iload_n 3, 1) := by decide +kernel
theorem dX8_way_9 : decode cX8_way 9 = .ok (.iconst 0, 1) := by decide +kernel
theorem dX8_way_10 : decode cX8_way 10 = .ok (.aload_n 0, 1) := by decide +kernel
theorem dX8_way_11 : decode cX8_way 11 = .ok (.getfield 7, 3) := by decide +kernel
theorem dX8_way_14 : decode cX8_way 14 = .ok (.iload_n 1, 1) := by decide +kernel
theorem dX8_way_15 : decode cX8_way 15 = .ok (.iaload, 1) := by decide +kernel
theorem dX8_way_16 : decode cX8_way 16 = .ok (.invokestatic 89, 3) := by decide +kernel
theorem dX8_way_19 : decode cX8_way 19 = .ok (.ifCond .ne 6, 3) := by decide +kernel
theorem dX8_way_22 : decode cX8_way 22 = .ok (.bipush (-101), 2) := by decide +kernel
theorem dX8_way_24 : decode cX8_way 24 = .ok (.ireturn, 1) := by decide +kernel
theorem dX8_way_25 : decode cX8_way 25 = .ok (.iload_n 2, 1) := by decide +kernel
theorem dX8_way_26 : decode cX8_way 26 = .ok (.invokestatic 132, 3) := by decide +kernel
theorem dX8_way_29 : decode cX8_way 29 = .ok (.ifCond .ne 6, 3) := by decide +kernel
theorem dX8_way_32 : decode cX8_way 32 = .ok (.bipush (-102), 2) := by decide +kernel
theorem dX8_way_34 : decode cX8_way 34 = .ok (.ireturn, 1) := by decide +kernel
theorem dX8_way_35 : decode cX8_way 35 = .ok (.aload_n 0, 1) := by decide +kernel
theorem dX8_way_36 : decode cX8_way 36 = .ok (.iload_n 1, 1) := by decide +kernel
theorem dX8_way_37 : decode cX8_way 37 = .ok (.invokevirtual 190, 3) := by decide +kernel
theorem dX8_way_40 : decode cX8_way 40 = .ok (.aload_n 0, 1) := by decide +kernel
theorem dX8_way_41 : decode cX8_way 41 = .ok (.iload_n 2, 1) := by decide +kernel
theorem dX8_way_42 : decode cX8_way 42 = .ok (.invokestatic 138, 3) := by decide +kernel
theorem dX8_way_45 : decode cX8_way 45 = .ok (.invokevirtual 232, 3) := by decide +kernel
theorem dX8_way_48 : decode cX8_way 48 = .ok (.aload_n 0, 1) := by decide +kernel
theorem dX8_way_49 : decode cX8_way 49 = .ok (.bipush 9, 2) := by decide +kernel
theorem dX8_way_51 : decode cX8_way 51 = .ok (.iconst 1, 1) := by decide +kernel
theorem dX8_way_52 : decode cX8_way 52 = .ok (.invokevirtual 248, 3) := by decide +kernel
theorem dX8_way_55 : decode cX8_way 55 = .ok (.ifCond .eq 12, 3) := by decide +kernel
theorem dX8_way_58 : decode cX8_way 58 = .ok (.aload_n 0, 1) := by decide +kernel
theorem dX8_way_59 : decode cX8_way 59 = .ok (.getfield 75, 3) := by decide +kernel
theorem dX8_way_62 : decode cX8_way 62 = .ok (.iload_n 3, 1) := by decide +kernel
theorem dX8_way_63 : decode cX8_way 63 = .ok (.iaload, 1) := by decide +kernel
theorem dX8_way_64 : decode cX8_way 64 = .ok (.goto 4, 3) := by decide +kernel
theorem dX8_way_67 : decode cX8_way 67 = .ok (.iconst (-1), 1) := by decide +kernel
theorem dX8_way_68 : decode cX8_way 68 = .ok (.ireturn, 1) := by decide +kernel
set_option maxHeartbeats 4000000 in
set_option maxRecDepth 100000 in
theorem c_X8_way (l : Launch) (E : fEv) (N : Nat) (a1 : Int32) (a2 : Int32) (a3 : Int32) (σ : fS) (r : Int32) (τ : fS) (hG : g_X8_way N a1 a2 a3 σ = some (r, τ)) : fM l E yX8_way (.code yX8_way cX8_way 4 (some .int)) rm_X8_way [.ref (E.2.1 61), .int a1, .int a2, .int a3] σ τ (some (.int r)) := by
  refine f_openI (by decide) (Nat.le_of_ble_eq_true rfl) ?_
  intro p e s m below meth c args Q F hR hP ls hl
  have hx := F.1.1
  have hb := F.1.2.1
  have hown := F.1.2.2.2.1
  have hts := F.1.2.2.2.2
  have hS : va_S (f_A E) s.heap s.heap [] := va_S.rf
  skip
  have hl : lv_has ls 4 [(0, .ref (E.2.1 61)), (1, .int a1), (2, .int a2), (3, .int a3)] := hl
  unfold g_X8_way at hG
  refine lv_aload_n hx hb dX8_way_0 rfl (lv_at hl 0 rfl) ?_
  refine lv_iload_n hx hb dX8_way_1 rfl (lv_at hl 1 rfl) ?_
  obtain ⟨r2, σ2, hC2, hG⟩ := f_bd hG
  refine iv_X8_155 F hS hP (c_X8_isForm l E N a1 σ _ _ hC2) ⟨Nat.le_of_ble_eq_true rfl, Nat.le_of_ble_eq_true rfl⟩ hl.1 (Nat.le_of_ble_eq_true rfl) dX8_way_2 ⟨Nat.zero_le _, Nat.zero_le _⟩ (fun H locs hP hS => ?_)
  refine lv_if_eq (tgt := 22) hx hb dX8_way_5 (by decide) (fun c5 => ?_) (fun c5 => ?_)
  · have hG := f_ip c5 hG
    refine lv_bipush (v := -101) hx hb dX8_way_22 (by decide) ?_
    exact x_ri hR hS hP hG dX8_way_24
  · have hG := f_in c5 hG
    refine lv_iload_n hx hb dX8_way_8 rfl (lv_at hl 3 rfl) ?_
    refine lv_iconst (v := 0) hx hb dX8_way_9 (by decide) ?_
    refine lv_aload_n hx hb dX8_way_10 rfl (lv_at hl 0 rfl) ?_
    refine gf_X8_7 F hP dX8_way_11 ?_
    refine lv_iload_n hx hb dX8_way_14 rfl (lv_at hl 1 rfl) ?_
    obtain ⟨h15, hG⟩ := f_gd hG
    have i15 := f_fin h15
    refine x_iald F hP rfl rfl i15 dX8_way_15 ?_
    obtain ⟨r16, σ16, hC16, hG⟩ := f_bd hG
    refine iv_X8_89 F hS hP (c_X8_within l E N a3 (0 : Int32) (σ2.1 62 (a1).toNatClampNeg) σ2 _ _ hC16) ⟨Nat.le_of_ble_eq_true rfl, Nat.le_of_ble_eq_true rfl⟩ hl.1 (Nat.le_of_ble_eq_true rfl) dX8_way_16 ⟨Nat.zero_le _, Nat.zero_le _⟩ (fun H locs hP hS => ?_)
    refine lv_if_ne (tgt := 25) hx hb dX8_way_19 (by decide) (fun c19 => ?_) (fun c19 => ?_)
    · have hG := f_in c19 hG
      refine lv_iload_n hx hb dX8_way_25 rfl (lv_at hl 2 rfl) ?_
      obtain ⟨r26, σ26, hC26, hG⟩ := f_bd hG
      refine iv_X8_132 F hS hP (c_X8_isNumber l E N a2 σ16 _ _ hC26) ⟨Nat.le_of_ble_eq_true rfl, Nat.le_of_ble_eq_true rfl⟩ hl.1 (Nat.le_of_ble_eq_true rfl) dX8_way_26 ⟨Nat.zero_le _, Nat.zero_le _⟩ (fun H locs hP hS => ?_)
      refine lv_if_ne (tgt := 35) hx hb dX8_way_29 (by decide) (fun c29 => ?_) (fun c29 => ?_)
      · have hG := f_in c29 hG
        refine lv_aload_n hx hb dX8_way_35 rfl (lv_at hl 0 rfl) ?_
        refine lv_iload_n hx hb dX8_way_36 rfl (lv_at hl 1 rfl) ?_
        obtain ⟨σ37, hC37, hG⟩ := f_bv hG
        refine iv_X8_190 F hS hP (c_X8_lookAt l E N a1 σ26 _ hC37) ⟨Nat.le_of_ble_eq_true rfl, Nat.le_of_ble_eq_true rfl⟩ hl.1 (Nat.le_of_ble_eq_true rfl) dX8_way_37 ⟨Nat.zero_le _, Nat.zero_le _⟩ (fun H locs hP hS => ?_)
        refine lv_aload_n hx hb dX8_way_40 rfl (lv_at hl 0 rfl) ?_
        refine lv_iload_n hx hb dX8_way_41 rfl (lv_at hl 2 rfl) ?_
        obtain ⟨r42, σ42, hC42, hG⟩ := f_bd hG
        refine iv_X8_138 F hS hP (c_X8_kindOf l E N a2 σ37 _ _ hC42) ⟨Nat.le_of_ble_eq_true rfl, Nat.le_of_ble_eq_true rfl⟩ hl.1 (Nat.le_of_ble_eq_true rfl) dX8_way_42 ⟨Nat.zero_le _, Nat.zero_le _⟩ (fun H locs hP hS => ?_)
        obtain ⟨σ45, hC45, hG⟩ := f_bv hG
        refine iv_X8_232 F hS hP (c_X8_lookMore l E N r42 σ42 _ hC45) ⟨Nat.le_of_ble_eq_true rfl, Nat.le_of_ble_eq_true rfl⟩ hl.1 (Nat.le_of_ble_eq_true rfl) dX8_way_45 ⟨Nat.zero_le _, Nat.zero_le _⟩ (fun H locs hP hS => ?_)
        refine lv_aload_n hx hb dX8_way_48 rfl (lv_at hl 0 rfl) ?_
        refine lv_bipush (v := 9) hx hb dX8_way_49 (by decide) ?_
        refine lv_iconst (v := 1) hx hb dX8_way_51 (by decide) ?_
        obtain ⟨r52, σ52, hC52, hG⟩ := f_bd hG
        refine iv_X8_248 F hS hP (c_X8_find l E N (9 : Int32) (1 : Int32) σ45 _ _ hC52) ⟨Nat.le_of_ble_eq_true rfl, Nat.le_of_ble_eq_true rfl⟩ hl.1 (Nat.le_of_ble_eq_true rfl) dX8_way_52 ⟨Nat.zero_le _, Nat.zero_le _⟩ (fun H locs hP hS => ?_)
        refine lv_if_eq (tgt := 67) hx hb dX8_way_55 (by decide) (fun c55 => ?_) (fun c55 => ?_)
        · have hG := f_ip c55 hG
          refine lv_iconst (v := -1) hx hb dX8_way_67 (by decide) ?_
          exact x_ri hR hS hP hG dX8_way_68
        · have hG := f_in c55 hG
          refine lv_aload_n hx hb dX8_way_58 rfl (lv_at hl 0 rfl) ?_
          refine gf_X8_75 F hP dX8_way_59 ?_
          refine lv_iload_n hx hb dX8_way_62 rfl (lv_at hl 3 rfl) ?_
          obtain ⟨h63, hG⟩ := f_gd hG
          have i63 := f_fin h63
          refine x_iald F hP rfl rfl i63 dX8_way_63 ?_
          refine lv_goto (tgt := 68) hx hb dX8_way_64 (by decide) ?_
          exact x_ri hR hS hP hG dX8_way_68
      · have hG := f_ip c29 hG
        refine lv_bipush (v := -102) hx hb dX8_way_32 (by decide) ?_
        exact x_ri hR hS hP hG dX8_way_34
    · have hG := f_ip c19 hG
      refine lv_bipush (v := -101) hx hb dX8_way_22 (by decide) ?_
      exact x_ri hR hS hP hG dX8_way_24
theorem dX8_clear_0 : decode cX8_clear 0 = .ok (.aload_n 0, 1) := by decide +kernel
theorem dX8_clear_1 : decode cX8_clear 1 = .ok (.iload_n 1, 1) := by decide +kernel
theorem dX8_clear_2 : decode cX8_clear 2 = .ok (.invokevirtual 155, 3) := by decide +kernel
theorem dX8_clear_5 : decode cX8_clear 5 = .ok (.ifCond .ne 6, 3) := by decide +kernel
theorem dX8_clear_8 : decode cX8_clear 8 = .ok (.bipush (-101), 2) := by decide +kernel
theorem dX8_clear_10 : decode cX8_clear 10 = .ok (.ireturn, 1) := by decide +kernel
theorem dX8_clear_11 : decode cX8_clear 11 = .ok (.aload_n 0, 1) := by decide +kernel
theorem dX8_clear_12 : decode cX8_clear 12 = .ok (.getfield 7, 3) := by decide +kernel
theorem dX8_clear_15 : decode cX8_clear 15 = .ok (.iload_n 1, 1) := by decide +kernel
theorem dX8_clear_16 : decode cX8_clear 16 = .ok (.iaload, 1) := by decide +kernel
theorem dX8_clear_17 : decode cX8_clear 17 = .ok (.istore_n 2, 1) := by decide +kernel
theorem dX8_clear_18 : decode cX8_clear 18 = .ok (.aload_n 0, 1) := by decide +kernel
theorem dX8_clear_19 : decode cX8_clear 19 = .ok (.iconst 0, 1) := by decide +kernel
theorem dX8_clear_20 : decode cX8_clear 20 = .ok (.putfield 135, 3) := by decide +kernel
theorem dX8_clear_23 : decode cX8_clear 23 = .ok (.aload_n 0, 1) := by decide +kernel
theorem dX8_clear_24 : decode cX8_clear 24 = .ok (.iload_n 1, 1) := by decide +kernel
theorem dX8_clear_25 : decode cX8_clear 25 = .ok (.invokevirtual 171, 3) := by decide +kernel
theorem dX8_clear_28 : decode cX8_clear 28 = .ok (.pop, 1) := by decide +kernel
theorem dX8_clear_29 : decode cX8_clear 29 = .ok (.iload_n 2, 1) := by decide +kernel
theorem dX8_clear_30 : decode cX8_clear 30 = .ok (.ireturn, 1) := by decide +kernel
set_option maxHeartbeats 4000000 in
set_option maxRecDepth 100000 in
theorem c_X8_clear (l : Launch) (E : fEv) (N : Nat) (a1 : Int32) (σ : fS) (r : Int32) (τ : fS) (hG : g_X8_clear N a1 σ = some (r, τ)) : fM l E yX8_clear (.code yX8_clear cX8_clear 3 (some .int)) rm_X8_clear [.ref (E.2.1 61), .int a1] σ τ (some (.int r)) := by
  refine f_openI (by decide) (Nat.le_of_ble_eq_true rfl) ?_
  intro p e s m below meth c args Q F hR hP ls hl
  have hx := F.1.1
  have hb := F.1.2.1
  have hown := F.1.2.2.2.1
  have hts := F.1.2.2.2.2
  have hS : va_S (f_A E) s.heap s.heap [] := va_S.rf
  skip
  have hl : lv_has ls 3 [(0, .ref (E.2.1 61)), (1, .int a1)] := hl
  unfold g_X8_clear at hG
  refine lv_aload_n hx hb dX8_clear_0 rfl (lv_at hl 0 rfl) ?_
  refine lv_iload_n hx hb dX8_clear_1 rfl (lv_at hl 1 rfl) ?_
  obtain ⟨r2, σ2, hC2, hG⟩ := f_bd hG
  refine iv_X8_155 F hS hP (c_X8_isForm l E N a1 σ _ _ hC2) ⟨Nat.le_of_ble_eq_true rfl, Nat.le_of_ble_eq_true rfl⟩ hl.1 (Nat.le_of_ble_eq_true rfl) dX8_clear_2 ⟨Nat.zero_le _, Nat.zero_le _⟩ (fun H locs hP hS => ?_)
  refine lv_if_ne (tgt := 11) hx hb dX8_clear_5 (by decide) (fun c5 => ?_) (fun c5 => ?_)
  · have hG := f_in c5 hG
    refine lv_aload_n hx hb dX8_clear_11 rfl (lv_at hl 0 rfl) ?_
    refine gf_X8_7 F hP dX8_clear_12 ?_
    refine lv_iload_n hx hb dX8_clear_15 rfl (lv_at hl 1 rfl) ?_
    obtain ⟨h16, hG⟩ := f_gd hG
    have i16 := f_fin h16
    refine x_iald F hP rfl rfl i16 dX8_clear_16 ?_
    refine lv_topi (fun v17 e17 => ?_)
    have hG := f_lt hG e17
    refine lv_istore_n (lv' := [(2, .int v17), (0, .ref (E.2.1 61)), (1, .int a1)]) hx hb dX8_clear_17 rfl hl (by decide) rfl (fun ls hl => ?_)
    refine lv_aload_n hx hb dX8_clear_18 rfl (lv_at hl 1 rfl) ?_
    refine lv_iconst (v := 0) hx hb dX8_clear_19 (by decide) ?_
    refine pf_X8_135 F hS hP dX8_clear_20 (fun H locs hP hS => ?_)
    obtain ⟨σ20, e20⟩ : ∃ t : fS, t = sI σ2 61 28 (0 : Int32) := ⟨_, rfl⟩
    rw [← e20] at hP
    have hG := f_lt hG e20
    refine lv_aload_n hx hb dX8_clear_23 rfl (lv_at hl 1 rfl) ?_
    refine lv_iload_n hx hb dX8_clear_24 rfl (lv_at hl 2 rfl) ?_
    obtain ⟨r25, σ25, hC25, hG⟩ := f_bd hG
    refine iv_X8_171 F hS hP (c_X8_layNew l E N a1 σ20 _ _ hC25) ⟨Nat.le_of_ble_eq_true rfl, Nat.le_of_ble_eq_true rfl⟩ hl.1 (Nat.le_of_ble_eq_true rfl) dX8_clear_25 ⟨Nat.zero_le _, Nat.zero_le _⟩ (fun H locs hP hS => ?_)
    refine lv_pop hx hb dX8_clear_28 rfl ?_
    refine lv_iload_n hx hb dX8_clear_29 rfl (lv_at hl 0 rfl) ?_
    exact x_ri hR hS hP hG dX8_clear_30
  · have hG := f_ip c5 hG
    refine lv_bipush (v := -101) hx hb dX8_clear_8 (by decide) ?_
    exact x_ri hR hS hP hG dX8_clear_10
theorem dX8_join_0 : decode cX8_join 0 = .ok (.aload_n 0, 1) := by decide +kernel
theorem dX8_join_1 : decode cX8_join 1 = .ok (.iload_n 1, 1) := by decide +kernel
theorem dX8_join_2 : decode cX8_join 2 = .ok (.invokevirtual 155, 3) := by decide +kernel
theorem dX8_join_5 : decode cX8_join 5 = .ok (.ifCond .eq 18, 3) := by decide +kernel
theorem dX8_join_8 : decode cX8_join 8 = .ok (.aload_n 0, 1) := by decide +kernel
theorem dX8_join_9 : decode cX8_join 9 = .ok (.iload_n 2, 1) := by decide +kernel
theorem dX8_join_10 : decode cX8_join 10 = .ok (.invokevirtual 155, 3) := by decide +kernel
theorem dX8_join_13 : decode cX8_join 13 = .ok (.ifCond .eq 10, 3) := by decide +kernel
theorem dX8_join_16 : decode cX8_join 16 = .ok (.iload_n 3, 1) := by decide +kernel
theorem dX8_join_17 : decode cX8_join 17 = .ok (.invokestatic 152, 3) := by decide +kernel
theorem dX8_join_20 : decode cX8_join 20 = .ok (.ifCond .ne 6, 3) := by decide +kernel
theorem dX8_join_23 : decode cX8_join 23 = .ok (.bipush (-101), 2) := by decide +kernel
theorem dX8_join_25 : decode cX8_join 25 = .ok (.ireturn, 1) := by decide +kernel
theorem dX8_join_26 : decode cX8_join 26 = .ok (.aload_n 0, 1) := by decide +kernel
theorem dX8_join_27 : decode cX8_join 27 = .ok (.getfield 7, 3) := by decide +kernel
theorem dX8_join_30 : decode cX8_join 30 = .ok (.iload_n 1, 1) := by decide +kernel
theorem dX8_join_31 : decode cX8_join 31 = .ok (.iaload, 1) := by decide +kernel
theorem dX8_join_32 : decode cX8_join 32 = .ok (.aload_n 0, 1) := by decide +kernel
theorem dX8_join_33 : decode cX8_join 33 = .ok (.getfield 7, 3) := by decide +kernel
theorem dX8_join_36 : decode cX8_join 36 = .ok (.iload_n 2, 1) := by decide +kernel
theorem dX8_join_37 : decode cX8_join 37 = .ok (.iaload, 1) := by decide +kernel
theorem dX8_join_38 : decode cX8_join 38 = .ok (.iadd, 1) := by decide +kernel
theorem dX8_join_39 : decode cX8_join 39 = .ok (.iconst 4, 1) := by decide +kernel
theorem dX8_join_40 : decode cX8_join 40 = .ok (.if_icmp .le 6, 3) := by decide +kernel
theorem dX8_join_43 : decode cX8_join 43 = .ok (.bipush (-104), 2) := by decide +kernel
theorem dX8_join_45 : decode cX8_join 45 = .ok (.ireturn, 1) := by decide +kernel
theorem dX8_join_46 : decode cX8_join 46 = .ok (.aload_n 0, 1) := by decide +kernel
theorem dX8_join_47 : decode cX8_join 47 = .ok (.iload_n 1, 1) := by decide +kernel
theorem dX8_join_48 : decode cX8_join 48 = .ok (.invokevirtual 251, 3) := by decide +kernel
theorem dX8_join_51 : decode cX8_join 51 = .ok (.iconst 0, 1) := by decide +kernel
theorem dX8_join_52 : decode cX8_join 52 = .ok (.istore 4, 2) := by decide +kernel
theorem dX8_join_54 : decode cX8_join 54 = .ok (.iload 4, 2) := by decide +kernel
theorem dX8_join_56 : decode cX8_join 56 = .ok (.aload_n 0, 1) := by decide +kernel
theorem dX8_join_57 : decode cX8_join 57 = .ok (.getfield 7, 3) := by decide +kernel
theorem dX8_join_60 : decode cX8_join 60 = .ok (.iload_n 2, 1) := by decide +kernel
theorem dX8_join_61 : decode cX8_join 61 = .ok (.iaload, 1) := by decide +kernel
theorem dX8_join_62 : decode cX8_join 62 = .ok (.if_icmp .ge 39, 3) := by decide +kernel
theorem dX8_join_65 : decode cX8_join 65 = .ok (.aload_n 0, 1) := by decide +kernel
theorem dX8_join_66 : decode cX8_join 66 = .ok (.getfield 72, 3) := by decide +kernel
theorem dX8_join_69 : decode cX8_join 69 = .ok (.aload_n 0, 1) := by decide +kernel
theorem dX8_join_70 : decode cX8_join 70 = .ok (.getfield 135, 3) := by decide +kernel
theorem dX8_join_73 : decode cX8_join 73 = .ok (.aload_n 0, 1) := by decide +kernel
theorem dX8_join_74 : decode cX8_join 74 = .ok (.getfield 13, 3) := by decide +kernel
theorem dX8_join_77 : decode cX8_join 77 = .ok (.iconst 4, 1) := by decide +kernel
theorem dX8_join_78 : decode cX8_join 78 = .ok (.iload_n 2, 1) := by decide +kernel
theorem dX8_join_79 : decode cX8_join 79 = .ok (.imul, 1) := by decide +kernel
theorem dX8_join_80 : decode cX8_join 80 = .ok (.iload 4, 2) := by decide +kernel
theorem dX8_join_82 : decode cX8_join 82 = .ok (.iadd, 1) := by decide +kernel
theorem dX8_join_83 : decode cX8_join 83 = .ok (.iaload, 1) := by decide +kernel
theorem dX8_join_84 : decode cX8_join 84 = .ok (.iastore, 1) := by decide +kernel
theorem dX8_join_85 : decode cX8_join 85 = .ok (.aload_n 0, 1) := by decide +kernel
theorem dX8_join_86 : decode cX8_join 86 = .ok (.dup, 1) := by decide +kernel
theorem dX8_join_87 : decode cX8_join 87 = .ok (.getfield 135, 3) := by decide +kernel
theorem dX8_join_90 : decode cX8_join 90 = .ok (.iconst 1, 1) := by decide +kernel
theorem dX8_join_91 : decode cX8_join 91 = .ok (.iadd, 1) := by decide +kernel
theorem dX8_join_92 : decode cX8_join 92 = .ok (.putfield 135, 3) := by decide +kernel
theorem dX8_join_95 : decode cX8_join 95 = .ok (.iinc 4 1, 3) := by decide +kernel
theorem dX8_join_98 : decode cX8_join 98 = .ok (.goto (-44), 3) := by decide +kernel
theorem dX8_join_101 : decode cX8_join 101 = .ok (.aload_n 0, 1) := by decide +kernel
theorem dX8_join_102 : decode cX8_join 102 = .ok (.iload_n 3, 1) := by decide +kernel
theorem dX8_join_103 : decode cX8_join 103 = .ok (.invokevirtual 171, 3) := by decide +kernel
theorem dX8_join_106 : decode cX8_join 106 = .ok (.ireturn, 1) := by decide +kernel
set_option maxHeartbeats 4000000 in
set_option maxRecDepth 100000 in
theorem c_X8_join (l : Launch) (E : fEv) (N : Nat) (a1 : Int32) (a2 : Int32) (a3 : Int32) (σ : fS) (r : Int32) (τ : fS) (hG : g_X8_join N a1 a2 a3 σ = some (r, τ)) : fM l E yX8_join (.code yX8_join cX8_join 5 (some .int)) rm_X8_join [.ref (E.2.1 61), .int a1, .int a2, .int a3] σ τ (some (.int r)) := by
  refine f_openI (by decide) (Nat.le_of_ble_eq_true rfl) ?_
  intro p e s m below meth c args Q F hR hP ls hl
  have hx := F.1.1
  have hb := F.1.2.1
  have hown := F.1.2.2.2.1
  have hts := F.1.2.2.2.2
  have hS : va_S (f_A E) s.heap s.heap [] := va_S.rf
  skip
  have hl : lv_has ls 5 [(0, .ref (E.2.1 61)), (1, .int a1), (2, .int a2), (3, .int a3)] := hl
  unfold g_X8_join at hG
  refine lv_aload_n hx hb dX8_join_0 rfl (lv_at hl 0 rfl) ?_
  refine lv_iload_n hx hb dX8_join_1 rfl (lv_at hl 1 rfl) ?_
  obtain ⟨r2, σ2, hC2, hG⟩ := f_bd hG
  refine iv_X8_155 F hS hP (c_X8_isForm l E N a1 σ _ _ hC2) ⟨Nat.le_of_ble_eq_true rfl, Nat.le_of_ble_eq_true rfl⟩ hl.1 (Nat.le_of_ble_eq_true rfl) dX8_join_2 ⟨Nat.zero_le _, Nat.zero_le _⟩ (fun H locs hP hS => ?_)
  refine lv_if_eq (tgt := 23) hx hb dX8_join_5 (by decide) (fun c5 => ?_) (fun c5 => ?_)
  · have hG := f_ip c5 hG
    refine lv_bipush (v := -101) hx hb dX8_join_23 (by decide) ?_
    exact x_ri hR hS hP hG dX8_join_25
  · have hG := f_in c5 hG
    refine lv_aload_n hx hb dX8_join_8 rfl (lv_at hl 0 rfl) ?_
    refine lv_iload_n hx hb dX8_join_9 rfl (lv_at hl 2 rfl) ?_
    obtain ⟨r10, σ10, hC10, hG⟩ := f_bd hG
    refine iv_X8_155 F hS hP (c_X8_isForm l E N a2 σ2 _ _ hC10) ⟨Nat.le_of_ble_eq_true rfl, Nat.le_of_ble_eq_true rfl⟩ hl.1 (Nat.le_of_ble_eq_true rfl) dX8_join_10 ⟨Nat.zero_le _, Nat.zero_le _⟩ (fun H locs hP hS => ?_)
    refine lv_if_eq (tgt := 23) hx hb dX8_join_13 (by decide) (fun c13 => ?_) (fun c13 => ?_)
    · have hG := f_ip c13 hG
      refine lv_bipush (v := -101) hx hb dX8_join_23 (by decide) ?_
      exact x_ri hR hS hP hG dX8_join_25
    · have hG := f_in c13 hG
      refine lv_iload_n hx hb dX8_join_16 rfl (lv_at hl 3 rfl) ?_
      obtain ⟨r17, σ17, hC17, hG⟩ := f_bd hG
      refine iv_X8_152 F hS hP (c_X8_isShelf l E N a3 σ10 _ _ hC17) ⟨Nat.le_of_ble_eq_true rfl, Nat.le_of_ble_eq_true rfl⟩ hl.1 (Nat.le_of_ble_eq_true rfl) dX8_join_17 ⟨Nat.zero_le _, Nat.zero_le _⟩ (fun H locs hP hS => ?_)
      refine lv_if_ne (tgt := 26) hx hb dX8_join_20 (by decide) (fun c20 => ?_) (fun c20 => ?_)
      · have hG := f_in c20 hG
        refine lv_aload_n hx hb dX8_join_26 rfl (lv_at hl 0 rfl) ?_
        refine gf_X8_7 F hP dX8_join_27 ?_
        refine lv_iload_n hx hb dX8_join_30 rfl (lv_at hl 1 rfl) ?_
        obtain ⟨h31, hG⟩ := f_gd hG
        have i31 := f_fin h31
        refine x_iald F hP rfl rfl i31 dX8_join_31 ?_
        refine lv_aload_n hx hb dX8_join_32 rfl (lv_at hl 0 rfl) ?_
        refine gf_X8_7 F hP dX8_join_33 ?_
        refine lv_iload_n hx hb dX8_join_36 rfl (lv_at hl 2 rfl) ?_
        obtain ⟨h37, hG⟩ := f_gd hG
        have i37 := f_fin h37
        refine x_iald F hP rfl rfl i37 dX8_join_37 ?_
        refine lv_iadd hx hb dX8_join_38 ?_
        refine lv_iconst (v := 4) hx hb dX8_join_39 (by decide) ?_
        refine lv_icmp_le (tgt := 46) hx hb dX8_join_40 (by decide) (fun c40 => ?_) (fun c40 => ?_)
        · have hG := f_ip c40 hG
          refine lv_aload_n hx hb dX8_join_46 rfl (lv_at hl 0 rfl) ?_
          refine lv_iload_n hx hb dX8_join_47 rfl (lv_at hl 1 rfl) ?_
          obtain ⟨σ48, hC48, hG⟩ := f_bv hG
          refine iv_X8_251 F hS hP (c_X8_take l E N a1 σ17 _ hC48) ⟨Nat.le_of_ble_eq_true rfl, Nat.le_of_ble_eq_true rfl⟩ hl.1 (Nat.le_of_ble_eq_true rfl) dX8_join_48 ⟨Nat.zero_le _, Nat.zero_le _⟩ (fun H locs hP hS => ?_)
          refine lv_iconst (v := 0) hx hb dX8_join_51 (by decide) ?_
          refine lv_istore (lv' := [(4, .int (0 : Int32)), (0, .ref (E.2.1 61)), (1, .int a1), (2, .int a2), (3, .int a3)]) hx hb dX8_join_52 hl (by decide) rfl (fun ls hl => ?_)
          obtain ⟨σl54, hT54, hG⟩ := f_bv hG
          have T54 : ∀ (H : Heap) (locs : List Loc) (ls : Array Slot), f_h E σl54 H → va_S (f_A E) s.heap H locs → lv_has ls 5 [(0, .ref (E.2.1 61)), (3, .int a3)] → W p l e rm_X8_join s m args below meth c H locs 0 0 Q (F0 m 101 ls []) := by
            intro H locs ls hP hS hl
            refine lv_aload_n hx hb dX8_join_101 rfl (lv_at hl 0 rfl) ?_
            refine lv_iload_n hx hb dX8_join_102 rfl (lv_at hl 1 rfl) ?_
            obtain ⟨r103, σ103, hC103, hG⟩ := f_bd hG
            refine iv_X8_171 F hS hP (c_X8_layNew l E N a3 σl54 _ _ hC103) ⟨Nat.le_of_ble_eq_true rfl, Nat.le_of_ble_eq_true rfl⟩ hl.1 (Nat.le_of_ble_eq_true rfl) dX8_join_103 ⟨Nat.zero_le _, Nat.zero_le _⟩ (fun H locs hP hS => ?_)
            exact x_ri hR hS hP hG dX8_join_106
          have L54 : ∀ (n54 : Nat) (x54_4 : Int32) (σh54 : fS) (H : Heap) (locs : List Loc) (ls : Array Slot), f_h E σh54 H → va_S (f_A E) s.heap H locs → lv_has ls 5 [(0, .ref (E.2.1 61)), (2, .int a2), (3, .int a3), (4, .int x54_4)] → lp_X8_join_54 N a2 a3 n54 x54_4 σh54 = some σl54 → W p l e rm_X8_join s m args below meth c H locs 0 0 Q (F0 m 54 ls []) := by
            intro n54
            induction n54 with
            | zero =>
              intro x54_4 σh54 H locs ls hP hS hl hG
              rw [lp_X8_join_54] at hG
              cases hG
            | succ n54 ih54 =>
              intro x54_4 σh54 H locs ls hP hS hl hG
              rw [lp_X8_join_54] at hG
              refine lv_iload hx hb dX8_join_54 (lv_at hl 3 rfl) ?_
              refine lv_aload_n hx hb dX8_join_56 rfl (lv_at hl 0 rfl) ?_
              refine gf_X8_7 F hP dX8_join_57 ?_
              refine lv_iload_n hx hb dX8_join_60 rfl (lv_at hl 1 rfl) ?_
              obtain ⟨h61, hG⟩ := f_gd hG
              have i61 := f_fin h61
              refine x_iald F hP rfl rfl i61 dX8_join_61 ?_
              refine lv_icmp_ge (tgt := 101) hx hb dX8_join_62 (by decide) (fun c62 => ?_) (fun c62 => ?_)
              · have hG := f_ip c62 hG
                cases hG
                exact T54 _ _ _ hP hS (lv_sub hl [0, 2] rfl)
              · have hG := f_in c62 hG
                refine lv_aload_n hx hb dX8_join_65 rfl (lv_at hl 0 rfl) ?_
                refine gf_X8_72 F hP dX8_join_66 ?_
                refine lv_aload_n hx hb dX8_join_69 rfl (lv_at hl 0 rfl) ?_
                refine gf_X8_135 F hP dX8_join_70 ?_
                refine lv_aload_n hx hb dX8_join_73 rfl (lv_at hl 0 rfl) ?_
                refine gf_X8_13 F hP dX8_join_74 ?_
                refine lv_iconst (v := 4) hx hb dX8_join_77 (by decide) ?_
                refine lv_iload_n hx hb dX8_join_78 rfl (lv_at hl 1 rfl) ?_
                refine lv_imul hx hb dX8_join_79 ?_
                refine lv_iload hx hb dX8_join_80 (lv_at hl 3 rfl) ?_
                refine lv_iadd hx hb dX8_join_82 ?_
                obtain ⟨h83, hG⟩ := f_gd hG
                have i83 := f_fin h83
                refine x_iald F hP rfl rfl i83 dX8_join_83 ?_
                obtain ⟨h84, hG⟩ := f_gd hG
                have i84 := f_fin h84
                refine x_iast F hS hP rfl rfl i84 dX8_join_84 (fun H locs hP hS => ?_)
                obtain ⟨σ84, e84⟩ : ∃ t : fS, t = sI σh54 82 ((σh54.1 61 28)).toNatClampNeg (σh54.1 63 ((((4 : Int32) * a2) + x54_4)).toNatClampNeg) := ⟨_, rfl⟩
                rw [← e84] at hP
                have hG := f_lt hG e84
                refine lv_aload_n hx hb dX8_join_85 rfl (lv_at hl 0 rfl) ?_
                refine lv_dup hx hb dX8_join_86 rfl ?_
                refine gf_X8_135 F hP dX8_join_87 ?_
                refine lv_iconst (v := 1) hx hb dX8_join_90 (by decide) ?_
                refine lv_iadd hx hb dX8_join_91 ?_
                refine pf_X8_135 F hS hP dX8_join_92 (fun H locs hP hS => ?_)
                obtain ⟨σ92, e92⟩ : ∃ t : fS, t = sI σ84 61 28 ((σ84.1 61 28) + (1 : Int32)) := ⟨_, rfl⟩
                rw [← e92] at hP
                have hG := f_lt hG e92
                refine lv_iinc (v := (x54_4 + (1 : Int32))) (lv' := [(4, .int (x54_4 + (1 : Int32))), (0, .ref (E.2.1 61)), (2, .int a2), (3, .int a3)]) hx hb dX8_join_95 hl (k := 3) rfl (by rfl) (by decide) rfl (fun ls hl => ?_)
                refine lv_goto (tgt := 54) hx hb dX8_join_98 (by decide) ?_
                exact ih54 (x54_4 + (1 : Int32)) σ92 _ _ _ hP hS (lv_sub hl [1, 2, 3, 0] rfl) hG
          exact L54 N (0 : Int32) σ48 _ _ _ hP hS (lv_sub hl [1, 3, 4, 0] rfl) hT54
        · have hG := f_in c40 hG
          refine lv_bipush (v := -104) hx hb dX8_join_43 (by decide) ?_
          exact x_ri hR hS hP hG dX8_join_45
      · have hG := f_ip c20 hG
        refine lv_bipush (v := -101) hx hb dX8_join_23 (by decide) ?_
        exact x_ri hR hS hP hG dX8_join_25
theorem dX8_times_0 : decode cX8_times 0 = .ok (.aload_n 0, 1) := by decide +kernel
theorem dX8_times_1 : decode cX8_times 1 = .ok (.iload_n 1, 1) := by decide +kernel
theorem dX8_times_2 : decode cX8_times 2 = .ok (.invokevirtual 155, 3) := by decide +kernel
theorem dX8_times_5 : decode cX8_times 5 = .ok (.ifCond .eq 18, 3) := by decide +kernel
theorem dX8_times_8 : decode cX8_times 8 = .ok (.aload_n 0, 1) := by decide +kernel
theorem dX8_times_9 : decode cX8_times 9 = .ok (.iload_n 2, 1) := by decide +kernel
theorem dX8_times_10 : decode cX8_times 10 = .ok (.invokevirtual 155, 3) := by decide +kernel
theorem dX8_times_13 : decode cX8_times 13 = .ok (.ifCond .eq 10, 3) := by decide +kernel
theorem dX8_times_16 : decode cX8_times 16 = .ok (.iload_n 3, 1) := by decide +kernel
theorem dX8_times_17 : decode cX8_times 17 = .ok (.invokestatic 152, 3) := by decide +kernel
theorem dX8_times_20 : decode cX8_times 20 = .ok (.ifCond .ne 6, 3) := by decide +kernel
theorem dX8_times_23 : decode cX8_times 23 = .ok (.bipush (-101), 2) := by decide +kernel
theorem dX8_times_25 : decode cX8_times 25 = .ok (.ireturn, 1) := by decide +kernel
theorem dX8_times_26 : decode cX8_times 26 = .ok (.aload_n 0, 1) := by decide +kernel
theorem dX8_times_27 : decode cX8_times 27 = .ok (.getfield 7, 3) := by decide +kernel
theorem dX8_times_30 : decode cX8_times 30 = .ok (.iload_n 1, 1) := by decide +kernel
theorem dX8_times_31 : decode cX8_times 31 = .ok (.iaload, 1) := by decide +kernel
theorem dX8_times_32 : decode cX8_times 32 = .ok (.aload_n 0, 1) := by decide +kernel
theorem dX8_times_33 : decode cX8_times 33 = .ok (.getfield 7, 3) := by decide +kernel
theorem dX8_times_36 : decode cX8_times 36 = .ok (.iload_n 2, 1) := by decide +kernel
theorem dX8_times_37 : decode cX8_times 37 = .ok (.iaload, 1) := by decide +kernel
theorem dX8_times_38 : decode cX8_times 38 = .ok (.imul, 1) := by decide +kernel
theorem dX8_times_39 : decode cX8_times 39 = .ok (.iconst 4, 1) := by decide +kernel
theorem dX8_times_40 : decode cX8_times 40 = .ok (.if_icmp .le 6, 3) := by decide +kernel
theorem dX8_times_43 : decode cX8_times 43 = .ok (.bipush (-104), 2) := by decide +kernel
theorem dX8_times_45 : decode cX8_times 45 = .ok (.ireturn, 1) := by decide +kernel
theorem dX8_times_46 : decode cX8_times 46 = .ok (.aload_n 0, 1) := by decide +kernel
theorem dX8_times_47 : decode cX8_times 47 = .ok (.aload_n 0, 1) := by decide +kernel
theorem dX8_times_48 : decode cX8_times 48 = .ok (.getfield 7, 3) := by decide +kernel
theorem dX8_times_51 : decode cX8_times 51 = .ok (.iload_n 1, 1) := by decide +kernel
theorem dX8_times_52 : decode cX8_times 52 = .ok (.iaload, 1) := by decide +kernel
theorem dX8_times_53 : decode cX8_times 53 = .ok (.aload_n 0, 1) := by decide +kernel
theorem dX8_times_54 : decode cX8_times 54 = .ok (.getfield 7, 3) := by decide +kernel
theorem dX8_times_57 : decode cX8_times 57 = .ok (.iload_n 2, 1) := by decide +kernel
theorem dX8_times_58 : decode cX8_times 58 = .ok (.iaload, 1) := by decide +kernel
theorem dX8_times_59 : decode cX8_times 59 = .ok (.imul, 1) := by decide +kernel
theorem dX8_times_60 : decode cX8_times 60 = .ok (.putfield 135, 3) := by decide +kernel
theorem dX8_times_63 : decode cX8_times 63 = .ok (.iconst 0, 1) := by decide +kernel
theorem dX8_times_64 : decode cX8_times 64 = .ok (.istore 4, 2) := by decide +kernel
theorem dX8_times_66 : decode cX8_times 66 = .ok (.iload 4, 2) := by decide +kernel
theorem dX8_times_68 : decode cX8_times 68 = .ok (.aload_n 0, 1) := by decide +kernel
theorem dX8_times_69 : decode cX8_times 69 = .ok (.getfield 135, 3) := by decide +kernel
theorem dX8_times_72 : decode cX8_times 72 = .ok (.if_icmp .ge 53, 3) := by decide +kernel
theorem dX8_times_75 : decode cX8_times 75 = .ok (.aload_n 0, 1) := by decide +kernel
theorem dX8_times_76 : decode cX8_times 76 = .ok (.getfield 72, 3) := by decide +kernel
theorem dX8_times_79 : decode cX8_times 79 = .ok (.iload 4, 2) := by decide +kernel
theorem dX8_times_81 : decode cX8_times 81 = .ok (.aload_n 0, 1) := by decide +kernel
theorem dX8_times_82 : decode cX8_times 82 = .ok (.getfield 13, 3) := by decide +kernel
theorem dX8_times_85 : decode cX8_times 85 = .ok (.iconst 4, 1) := by decide +kernel
theorem dX8_times_86 : decode cX8_times 86 = .ok (.iload_n 1, 1) := by decide +kernel
theorem dX8_times_87 : decode cX8_times 87 = .ok (.imul, 1) := by decide +kernel
theorem dX8_times_88 : decode cX8_times 88 = .ok (.iload 4, 2) := by decide +kernel
theorem dX8_times_90 : decode cX8_times 90 = .ok (.aload_n 0, 1) := by decide +kernel
theorem dX8_times_91 : decode cX8_times 91 = .ok (.getfield 7, 3) := by decide +kernel
theorem dX8_times_94 : decode cX8_times 94 = .ok (.iload_n 2, 1) := by decide +kernel
theorem dX8_times_95 : decode cX8_times 95 = .ok (.iaload, 1) := by decide +kernel
theorem dX8_times_96 : decode cX8_times 96 = .ok (.idiv, 1) := by decide +kernel
theorem dX8_times_97 : decode cX8_times 97 = .ok (.iadd, 1) := by decide +kernel
theorem dX8_times_98 : decode cX8_times 98 = .ok (.iaload, 1) := by decide +kernel
theorem dX8_times_99 : decode cX8_times 99 = .ok (.aload_n 0, 1) := by decide +kernel
theorem dX8_times_100 : decode cX8_times 100 = .ok (.getfield 13, 3) := by decide +kernel
theorem dX8_times_103 : decode cX8_times 103 = .ok (.iconst 4, 1) := by decide +kernel
theorem dX8_times_104 : decode cX8_times 104 = .ok (.iload_n 2, 1) := by decide +kernel
theorem dX8_times_105 : decode cX8_times 105 = .ok (.imul, 1) := by decide +kernel
theorem dX8_times_106 : decode cX8_times 106 = .ok (.iload 4, 2) := by decide +kernel
theorem dX8_times_108 : decode cX8_times 108 = .ok (.aload_n 0, 1) := by decide +kernel
theorem dX8_times_109 : decode cX8_times 109 = .ok (.getfield 7, 3) := by decide +kernel
theorem dX8_times_112 : decode cX8_times 112 = .ok (.iload_n 2, 1) := by decide +kernel
theorem dX8_times_113 : decode cX8_times 113 = .ok (.iaload, 1) := by decide +kernel
theorem dX8_times_114 : decode cX8_times 114 = .ok (.irem, 1) := by decide +kernel
theorem dX8_times_115 : decode cX8_times 115 = .ok (.iadd, 1) := by decide +kernel
theorem dX8_times_116 : decode cX8_times 116 = .ok (.iaload, 1) := by decide +kernel
theorem dX8_times_117 : decode cX8_times 117 = .ok (.ixor, 1) := by decide +kernel
theorem dX8_times_118 : decode cX8_times 118 = .ok (.iastore, 1) := by decide +kernel
theorem dX8_times_119 : decode cX8_times 119 = .ok (.iinc 4 1, 3) := by decide +kernel
theorem dX8_times_122 : decode cX8_times 122 = .ok (.goto (-56), 3) := by decide +kernel
theorem dX8_times_125 : decode cX8_times 125 = .ok (.aload_n 0, 1) := by decide +kernel
theorem dX8_times_126 : decode cX8_times 126 = .ok (.iload_n 3, 1) := by decide +kernel
theorem dX8_times_127 : decode cX8_times 127 = .ok (.invokevirtual 171, 3) := by decide +kernel
theorem dX8_times_130 : decode cX8_times 130 = .ok (.ireturn, 1) := by decide +kernel
set_option maxHeartbeats 4000000 in
set_option maxRecDepth 100000 in
theorem c_X8_times (l : Launch) (E : fEv) (N : Nat) (a1 : Int32) (a2 : Int32) (a3 : Int32) (σ : fS) (r : Int32) (τ : fS) (hG : g_X8_times N a1 a2 a3 σ = some (r, τ)) : fM l E yX8_times (.code yX8_times cX8_times 5 (some .int)) rm_X8_times [.ref (E.2.1 61), .int a1, .int a2, .int a3] σ τ (some (.int r)) := by
  refine f_openI (by decide) (Nat.le_of_ble_eq_true rfl) ?_
  intro p e s m below meth c args Q F hR hP ls hl
  have hx := F.1.1
  have hb := F.1.2.1
  have hown := F.1.2.2.2.1
  have hts := F.1.2.2.2.2
  have hS : va_S (f_A E) s.heap s.heap [] := va_S.rf
  skip
  have hl : lv_has ls 5 [(0, .ref (E.2.1 61)), (1, .int a1), (2, .int a2), (3, .int a3)] := hl
  unfold g_X8_times at hG
  refine lv_aload_n hx hb dX8_times_0 rfl (lv_at hl 0 rfl) ?_
  refine lv_iload_n hx hb dX8_times_1 rfl (lv_at hl 1 rfl) ?_
  obtain ⟨r2, σ2, hC2, hG⟩ := f_bd hG
  refine iv_X8_155 F hS hP (c_X8_isForm l E N a1 σ _ _ hC2) ⟨Nat.le_of_ble_eq_true rfl, Nat.le_of_ble_eq_true rfl⟩ hl.1 (Nat.le_of_ble_eq_true rfl) dX8_times_2 ⟨Nat.zero_le _, Nat.zero_le _⟩ (fun H locs hP hS => ?_)
  refine lv_if_eq (tgt := 23) hx hb dX8_times_5 (by decide) (fun c5 => ?_) (fun c5 => ?_)
  · have hG := f_ip c5 hG
    refine lv_bipush (v := -101) hx hb dX8_times_23 (by decide) ?_
    exact x_ri hR hS hP hG dX8_times_25
  · have hG := f_in c5 hG
    refine lv_aload_n hx hb dX8_times_8 rfl (lv_at hl 0 rfl) ?_
    refine lv_iload_n hx hb dX8_times_9 rfl (lv_at hl 2 rfl) ?_
    obtain ⟨r10, σ10, hC10, hG⟩ := f_bd hG
    refine iv_X8_155 F hS hP (c_X8_isForm l E N a2 σ2 _ _ hC10) ⟨Nat.le_of_ble_eq_true rfl, Nat.le_of_ble_eq_true rfl⟩ hl.1 (Nat.le_of_ble_eq_true rfl) dX8_times_10 ⟨Nat.zero_le _, Nat.zero_le _⟩ (fun H locs hP hS => ?_)
    refine lv_if_eq (tgt := 23) hx hb dX8_times_13 (by decide) (fun c13 => ?_) (fun c13 => ?_)
    · have hG := f_ip c13 hG
      refine lv_bipush (v := -101) hx hb dX8_times_23 (by decide) ?_
      exact x_ri hR hS hP hG dX8_times_25
    · have hG := f_in c13 hG
      refine lv_iload_n hx hb dX8_times_16 rfl (lv_at hl 3 rfl) ?_
      obtain ⟨r17, σ17, hC17, hG⟩ := f_bd hG
      refine iv_X8_152 F hS hP (c_X8_isShelf l E N a3 σ10 _ _ hC17) ⟨Nat.le_of_ble_eq_true rfl, Nat.le_of_ble_eq_true rfl⟩ hl.1 (Nat.le_of_ble_eq_true rfl) dX8_times_17 ⟨Nat.zero_le _, Nat.zero_le _⟩ (fun H locs hP hS => ?_)
      refine lv_if_ne (tgt := 26) hx hb dX8_times_20 (by decide) (fun c20 => ?_) (fun c20 => ?_)
      · have hG := f_in c20 hG
        refine lv_aload_n hx hb dX8_times_26 rfl (lv_at hl 0 rfl) ?_
        refine gf_X8_7 F hP dX8_times_27 ?_
        refine lv_iload_n hx hb dX8_times_30 rfl (lv_at hl 1 rfl) ?_
        obtain ⟨h31, hG⟩ := f_gd hG
        have i31 := f_fin h31
        refine x_iald F hP rfl rfl i31 dX8_times_31 ?_
        refine lv_aload_n hx hb dX8_times_32 rfl (lv_at hl 0 rfl) ?_
        refine gf_X8_7 F hP dX8_times_33 ?_
        refine lv_iload_n hx hb dX8_times_36 rfl (lv_at hl 2 rfl) ?_
        obtain ⟨h37, hG⟩ := f_gd hG
        have i37 := f_fin h37
        refine x_iald F hP rfl rfl i37 dX8_times_37 ?_
        refine lv_imul hx hb dX8_times_38 ?_
        refine lv_iconst (v := 4) hx hb dX8_times_39 (by decide) ?_
        refine lv_icmp_le (tgt := 46) hx hb dX8_times_40 (by decide) (fun c40 => ?_) (fun c40 => ?_)
        · have hG := f_ip c40 hG
          refine lv_aload_n hx hb dX8_times_46 rfl (lv_at hl 0 rfl) ?_
          refine lv_aload_n hx hb dX8_times_47 rfl (lv_at hl 0 rfl) ?_
          refine gf_X8_7 F hP dX8_times_48 ?_
          refine lv_iload_n hx hb dX8_times_51 rfl (lv_at hl 1 rfl) ?_
          obtain ⟨h52, hG⟩ := f_gd hG
          have i52 := f_fin h52
          refine x_iald F hP rfl rfl i52 dX8_times_52 ?_
          refine lv_aload_n hx hb dX8_times_53 rfl (lv_at hl 0 rfl) ?_
          refine gf_X8_7 F hP dX8_times_54 ?_
          refine lv_iload_n hx hb dX8_times_57 rfl (lv_at hl 2 rfl) ?_
          obtain ⟨h58, hG⟩ := f_gd hG
          have i58 := f_fin h58
          refine x_iald F hP rfl rfl i58 dX8_times_58 ?_
          refine lv_imul hx hb dX8_times_59 ?_
          refine pf_X8_135 F hS hP dX8_times_60 (fun H locs hP hS => ?_)
          obtain ⟨σ60, e60⟩ : ∃ t : fS, t = sI σ17 61 28 ((σ17.1 62 (a1).toNatClampNeg) * (σ17.1 62 (a2).toNatClampNeg)) := ⟨_, rfl⟩
          rw [← e60] at hP
          have hG := f_lt hG e60
          refine lv_iconst (v := 0) hx hb dX8_times_63 (by decide) ?_
          refine lv_istore (lv' := [(4, .int (0 : Int32)), (0, .ref (E.2.1 61)), (1, .int a1), (2, .int a2), (3, .int a3)]) hx hb dX8_times_64 hl (by decide) rfl (fun ls hl => ?_)
          obtain ⟨σl66, hT66, hG⟩ := f_bv hG
          have T66 : ∀ (H : Heap) (locs : List Loc) (ls : Array Slot), f_h E σl66 H → va_S (f_A E) s.heap H locs → lv_has ls 5 [(0, .ref (E.2.1 61)), (3, .int a3)] → W p l e rm_X8_times s m args below meth c H locs 0 0 Q (F0 m 125 ls []) := by
            intro H locs ls hP hS hl
            refine lv_aload_n hx hb dX8_times_125 rfl (lv_at hl 0 rfl) ?_
            refine lv_iload_n hx hb dX8_times_126 rfl (lv_at hl 1 rfl) ?_
            obtain ⟨r127, σ127, hC127, hG⟩ := f_bd hG
            refine iv_X8_171 F hS hP (c_X8_layNew l E N a3 σl66 _ _ hC127) ⟨Nat.le_of_ble_eq_true rfl, Nat.le_of_ble_eq_true rfl⟩ hl.1 (Nat.le_of_ble_eq_true rfl) dX8_times_127 ⟨Nat.zero_le _, Nat.zero_le _⟩ (fun H locs hP hS => ?_)
            exact x_ri hR hS hP hG dX8_times_130
          have L66 : ∀ (n66 : Nat) (x66_4 : Int32) (σh66 : fS) (H : Heap) (locs : List Loc) (ls : Array Slot), f_h E σh66 H → va_S (f_A E) s.heap H locs → lv_has ls 5 [(0, .ref (E.2.1 61)), (1, .int a1), (2, .int a2), (3, .int a3), (4, .int x66_4)] → lp_X8_times_66 N a1 a2 a3 n66 x66_4 σh66 = some σl66 → W p l e rm_X8_times s m args below meth c H locs 0 0 Q (F0 m 66 ls []) := by
            intro n66
            induction n66 with
            | zero =>
              intro x66_4 σh66 H locs ls hP hS hl hG
              rw [lp_X8_times_66] at hG
              cases hG
            | succ n66 ih66 =>
              intro x66_4 σh66 H locs ls hP hS hl hG
              rw [lp_X8_times_66] at hG
              refine lv_iload hx hb dX8_times_66 (lv_at hl 4 rfl) ?_
              refine lv_aload_n hx hb dX8_times_68 rfl (lv_at hl 0 rfl) ?_
              refine gf_X8_135 F hP dX8_times_69 ?_
              refine lv_icmp_ge (tgt := 125) hx hb dX8_times_72 (by decide) (fun c72 => ?_) (fun c72 => ?_)
              · have hG := f_ip c72 hG
                cases hG
                exact T66 _ _ _ hP hS (lv_sub hl [0, 3] rfl)
              · have hG := f_in c72 hG
                refine lv_aload_n hx hb dX8_times_75 rfl (lv_at hl 0 rfl) ?_
                refine gf_X8_72 F hP dX8_times_76 ?_
                refine lv_iload hx hb dX8_times_79 (lv_at hl 4 rfl) ?_
                refine lv_aload_n hx hb dX8_times_81 rfl (lv_at hl 0 rfl) ?_
                refine gf_X8_13 F hP dX8_times_82 ?_
                refine lv_iconst (v := 4) hx hb dX8_times_85 (by decide) ?_
                refine lv_iload_n hx hb dX8_times_86 rfl (lv_at hl 1 rfl) ?_
                refine lv_imul hx hb dX8_times_87 ?_
                refine lv_iload hx hb dX8_times_88 (lv_at hl 4 rfl) ?_
                refine lv_aload_n hx hb dX8_times_90 rfl (lv_at hl 0 rfl) ?_
                refine gf_X8_7 F hP dX8_times_91 ?_
                refine lv_iload_n hx hb dX8_times_94 rfl (lv_at hl 2 rfl) ?_
                obtain ⟨h95, hG⟩ := f_gd hG
                have i95 := f_fin h95
                refine x_iald F hP rfl rfl i95 dX8_times_95 ?_
                obtain ⟨h96, hG⟩ := f_gd hG
                refine lv_idiv hx hb dX8_times_96 (f_nz h96) ?_
                refine lv_iadd hx hb dX8_times_97 ?_
                obtain ⟨h98, hG⟩ := f_gd hG
                have i98 := f_fin h98
                refine x_iald F hP rfl rfl i98 dX8_times_98 ?_
                refine lv_aload_n hx hb dX8_times_99 rfl (lv_at hl 0 rfl) ?_
                refine gf_X8_13 F hP dX8_times_100 ?_
                refine lv_iconst (v := 4) hx hb dX8_times_103 (by decide) ?_
                refine lv_iload_n hx hb dX8_times_104 rfl (lv_at hl 2 rfl) ?_
                refine lv_imul hx hb dX8_times_105 ?_
                refine lv_iload hx hb dX8_times_106 (lv_at hl 4 rfl) ?_
                refine lv_aload_n hx hb dX8_times_108 rfl (lv_at hl 0 rfl) ?_
                refine gf_X8_7 F hP dX8_times_109 ?_
                refine lv_iload_n hx hb dX8_times_112 rfl (lv_at hl 2 rfl) ?_
                obtain ⟨h113, hG⟩ := f_gd hG
                have i113 := f_fin h113
                refine x_iald F hP rfl rfl i113 dX8_times_113 ?_
                obtain ⟨h114, hG⟩ := f_gd hG
                refine x_irem F dX8_times_114 (f_nz h114) ?_
                refine lv_iadd hx hb dX8_times_115 ?_
                obtain ⟨h116, hG⟩ := f_gd hG
                have i116 := f_fin h116
                refine x_iald F hP rfl rfl i116 dX8_times_116 ?_
                refine lv_ixor hx hb dX8_times_117 ?_
                obtain ⟨h118, hG⟩ := f_gd hG
                have i118 := f_fin h118
                refine x_iast F hS hP rfl rfl i118 dX8_times_118 (fun H locs hP hS => ?_)
                obtain ⟨σ118, e118⟩ : ∃ t : fS, t = sI σh66 82 (x66_4).toNatClampNeg ((σh66.1 63 ((((4 : Int32) * a1) + (x66_4 / (σh66.1 62 (a2).toNatClampNeg)))).toNatClampNeg) ^^^ (σh66.1 63 ((((4 : Int32) * a2) + (iR x66_4 (σh66.1 62 (a2).toNatClampNeg)))).toNatClampNeg)) := ⟨_, rfl⟩
                rw [← e118] at hP
                have hG := f_lt hG e118
                refine lv_iinc (v := (x66_4 + (1 : Int32))) (lv' := [(4, .int (x66_4 + (1 : Int32))), (0, .ref (E.2.1 61)), (1, .int a1), (2, .int a2), (3, .int a3)]) hx hb dX8_times_119 hl (k := 4) rfl (by rfl) (by decide) rfl (fun ls hl => ?_)
                refine lv_goto (tgt := 66) hx hb dX8_times_122 (by decide) ?_
                exact ih66 (x66_4 + (1 : Int32)) σ118 _ _ _ hP hS (lv_sub hl [1, 2, 3, 4, 0] rfl) hG
          exact L66 N (0 : Int32) σ60 _ _ _ hP hS (lv_sub hl [1, 2, 3, 4, 0] rfl) hT66
        · have hG := f_in c40 hG
          refine lv_bipush (v := -104) hx hb dX8_times_43 (by decide) ?_
          exact x_ri hR hS hP hG dX8_times_45
      · have hG := f_ip c20 hG
        refine lv_bipush (v := -101) hx hb dX8_times_23 (by decide) ?_
        exact x_ri hR hS hP hG dX8_times_25
theorem dX8_scale_0 : decode cX8_scale 0 = .ok (.aload_n 0, 1) := by decide +kernel
theorem dX8_scale_1 : decode cX8_scale 1 = .ok (.iload_n 1, 1) := by decide +kernel
theorem dX8_scale_2 : decode cX8_scale 2 = .ok (.invokevirtual 155, 3) := by decide +kernel
theorem dX8_scale_5 : decode cX8_scale 5 = .ok (.ifCond .ne 6, 3) := by decide +kernel
theorem dX8_scale_8 : decode cX8_scale 8 = .ok (.bipush (-101), 2) := by decide +kernel
theorem dX8_scale_10 : decode cX8_scale 10 = .ok (.ireturn, 1) := by decide +kernel
theorem dX8_scale_11 : decode cX8_scale 11 = .ok (.iload_n 2, 1) := by decide +kernel
theorem dX8_scale_12 : decode cX8_scale 12 = .ok (.invokestatic 132, 3) := by decide +kernel
theorem dX8_scale_15 : decode cX8_scale 15 = .ok (.ifCond .ne 6, 3) := by decide +kernel
theorem dX8_scale_18 : decode cX8_scale 18 = .ok (.bipush (-102), 2) := by decide +kernel
theorem dX8_scale_20 : decode cX8_scale 20 = .ok (.ireturn, 1) := by decide +kernel
theorem dX8_scale_21 : decode cX8_scale 21 = .ok (.aload_n 0, 1) := by decide +kernel
theorem dX8_scale_22 : decode cX8_scale 22 = .ok (.iload_n 1, 1) := by decide +kernel
theorem dX8_scale_23 : decode cX8_scale 23 = .ok (.invokevirtual 251, 3) := by decide +kernel
theorem dX8_scale_26 : decode cX8_scale 26 = .ok (.iconst 0, 1) := by decide +kernel
theorem dX8_scale_27 : decode cX8_scale 27 = .ok (.istore_n 3, 1) := by decide +kernel
theorem dX8_scale_28 : decode cX8_scale 28 = .ok (.iload_n 3, 1) := by decide +kernel
theorem dX8_scale_29 : decode cX8_scale 29 = .ok (.aload_n 0, 1) := by decide +kernel
theorem dX8_scale_30 : decode cX8_scale 30 = .ok (.getfield 135, 3) := by decide +kernel
theorem dX8_scale_33 : decode cX8_scale 33 = .ok (.if_icmp .ge 22, 3) := by decide +kernel
theorem dX8_scale_36 : decode cX8_scale 36 = .ok (.aload_n 0, 1) := by decide +kernel
theorem dX8_scale_37 : decode cX8_scale 37 = .ok (.getfield 72, 3) := by decide +kernel
theorem dX8_scale_40 : decode cX8_scale 40 = .ok (.iload_n 3, 1) := by decide +kernel
theorem dX8_scale_41 : decode cX8_scale 41 = .ok (.dup2, 1) := by decide +kernel
theorem dX8_scale_42 : decode cX8_scale 42 = .ok (.iaload, 1) := by decide +kernel
theorem dX8_scale_43 : decode cX8_scale 43 = .ok (.iload_n 2, 1) := by decide +kernel
theorem dX8_scale_44 : decode cX8_scale 44 = .ok (.invokestatic 138, 3) := by decide +kernel
theorem dX8_scale_47 : decode cX8_scale 47 = .ok (.ixor, 1) := by decide +kernel
theorem dX8_scale_48 : decode cX8_scale 48 = .ok (.iastore, 1) := by decide +kernel
theorem dX8_scale_49 : decode cX8_scale 49 = .ok (.iinc 3 1, 3) := by decide +kernel
theorem dX8_scale_52 : decode cX8_scale 52 = .ok (.goto (-24), 3) := by decide +kernel
theorem dX8_scale_55 : decode cX8_scale 55 = .ok (.aload_n 0, 1) := by decide +kernel
theorem dX8_scale_56 : decode cX8_scale 56 = .ok (.iload_n 1, 1) := by decide +kernel
theorem dX8_scale_57 : decode cX8_scale 57 = .ok (.invokevirtual 171, 3) := by decide +kernel
theorem dX8_scale_60 : decode cX8_scale 60 = .ok (.pop, 1) := by decide +kernel
theorem dX8_scale_61 : decode cX8_scale 61 = .ok (.aload_n 0, 1) := by decide +kernel
theorem dX8_scale_62 : decode cX8_scale 62 = .ok (.iload_n 1, 1) := by decide +kernel
theorem dX8_scale_63 : decode cX8_scale 63 = .ok (.invokevirtual 202, 3) := by decide +kernel
theorem dX8_scale_66 : decode cX8_scale 66 = .ok (.ireturn, 1) := by decide +kernel
set_option maxHeartbeats 4000000 in
set_option maxRecDepth 100000 in
theorem c_X8_scale (l : Launch) (E : fEv) (N : Nat) (a1 : Int32) (a2 : Int32) (σ : fS) (r : Int32) (τ : fS) (hG : g_X8_scale N a1 a2 σ = some (r, τ)) : fM l E yX8_scale (.code yX8_scale cX8_scale 4 (some .int)) rm_X8_scale [.ref (E.2.1 61), .int a1, .int a2] σ τ (some (.int r)) := by
  refine f_openI (by decide) (Nat.le_of_ble_eq_true rfl) ?_
  intro p e s m below meth c args Q F hR hP ls hl
  have hx := F.1.1
  have hb := F.1.2.1
  have hown := F.1.2.2.2.1
  have hts := F.1.2.2.2.2
  have hS : va_S (f_A E) s.heap s.heap [] := va_S.rf
  skip
  have hl : lv_has ls 4 [(0, .ref (E.2.1 61)), (1, .int a1), (2, .int a2)] := hl
  unfold g_X8_scale at hG
  refine lv_aload_n hx hb dX8_scale_0 rfl (lv_at hl 0 rfl) ?_
  refine lv_iload_n hx hb dX8_scale_1 rfl (lv_at hl 1 rfl) ?_
  obtain ⟨r2, σ2, hC2, hG⟩ := f_bd hG
  refine iv_X8_155 F hS hP (c_X8_isForm l E N a1 σ _ _ hC2) ⟨Nat.le_of_ble_eq_true rfl, Nat.le_of_ble_eq_true rfl⟩ hl.1 (Nat.le_of_ble_eq_true rfl) dX8_scale_2 ⟨Nat.zero_le _, Nat.zero_le _⟩ (fun H locs hP hS => ?_)
  refine lv_if_ne (tgt := 11) hx hb dX8_scale_5 (by decide) (fun c5 => ?_) (fun c5 => ?_)
  · have hG := f_in c5 hG
    refine lv_iload_n hx hb dX8_scale_11 rfl (lv_at hl 2 rfl) ?_
    obtain ⟨r12, σ12, hC12, hG⟩ := f_bd hG
    refine iv_X8_132 F hS hP (c_X8_isNumber l E N a2 σ2 _ _ hC12) ⟨Nat.le_of_ble_eq_true rfl, Nat.le_of_ble_eq_true rfl⟩ hl.1 (Nat.le_of_ble_eq_true rfl) dX8_scale_12 ⟨Nat.zero_le _, Nat.zero_le _⟩ (fun H locs hP hS => ?_)
    refine lv_if_ne (tgt := 21) hx hb dX8_scale_15 (by decide) (fun c15 => ?_) (fun c15 => ?_)
    · have hG := f_in c15 hG
      refine lv_aload_n hx hb dX8_scale_21 rfl (lv_at hl 0 rfl) ?_
      refine lv_iload_n hx hb dX8_scale_22 rfl (lv_at hl 1 rfl) ?_
      obtain ⟨σ23, hC23, hG⟩ := f_bv hG
      refine iv_X8_251 F hS hP (c_X8_take l E N a1 σ12 _ hC23) ⟨Nat.le_of_ble_eq_true rfl, Nat.le_of_ble_eq_true rfl⟩ hl.1 (Nat.le_of_ble_eq_true rfl) dX8_scale_23 ⟨Nat.zero_le _, Nat.zero_le _⟩ (fun H locs hP hS => ?_)
      refine lv_iconst (v := 0) hx hb dX8_scale_26 (by decide) ?_
      refine lv_istore_n (lv' := [(3, .int (0 : Int32)), (0, .ref (E.2.1 61)), (1, .int a1), (2, .int a2)]) hx hb dX8_scale_27 rfl hl (by decide) rfl (fun ls hl => ?_)
      obtain ⟨σl28, hT28, hG⟩ := f_bv hG
      have T28 : ∀ (H : Heap) (locs : List Loc) (ls : Array Slot), f_h E σl28 H → va_S (f_A E) s.heap H locs → lv_has ls 4 [(0, .ref (E.2.1 61)), (1, .int a1)] → W p l e rm_X8_scale s m args below meth c H locs 0 0 Q (F0 m 55 ls []) := by
        intro H locs ls hP hS hl
        refine lv_aload_n hx hb dX8_scale_55 rfl (lv_at hl 0 rfl) ?_
        refine lv_iload_n hx hb dX8_scale_56 rfl (lv_at hl 1 rfl) ?_
        obtain ⟨r57, σ57, hC57, hG⟩ := f_bd hG
        refine iv_X8_171 F hS hP (c_X8_layNew l E N a1 σl28 _ _ hC57) ⟨Nat.le_of_ble_eq_true rfl, Nat.le_of_ble_eq_true rfl⟩ hl.1 (Nat.le_of_ble_eq_true rfl) dX8_scale_57 ⟨Nat.zero_le _, Nat.zero_le _⟩ (fun H locs hP hS => ?_)
        refine lv_pop hx hb dX8_scale_60 rfl ?_
        refine lv_aload_n hx hb dX8_scale_61 rfl (lv_at hl 0 rfl) ?_
        refine lv_iload_n hx hb dX8_scale_62 rfl (lv_at hl 1 rfl) ?_
        obtain ⟨r63, σ63, hC63, hG⟩ := f_bd hG
        refine iv_X8_202 F hS hP (c_X8_det l E N a1 σ57 _ _ hC63) ⟨Nat.le_of_ble_eq_true rfl, Nat.le_of_ble_eq_true rfl⟩ hl.1 (Nat.le_of_ble_eq_true rfl) dX8_scale_63 ⟨Nat.zero_le _, Nat.zero_le _⟩ (fun H locs hP hS => ?_)
        exact x_ri hR hS hP hG dX8_scale_66
      have L28 : ∀ (n28 : Nat) (x28_3 : Int32) (σh28 : fS) (H : Heap) (locs : List Loc) (ls : Array Slot), f_h E σh28 H → va_S (f_A E) s.heap H locs → lv_has ls 4 [(0, .ref (E.2.1 61)), (1, .int a1), (2, .int a2), (3, .int x28_3)] → lp_X8_scale_28 N a1 a2 n28 x28_3 σh28 = some σl28 → W p l e rm_X8_scale s m args below meth c H locs 0 0 Q (F0 m 28 ls []) := by
        intro n28
        induction n28 with
        | zero =>
          intro x28_3 σh28 H locs ls hP hS hl hG
          rw [lp_X8_scale_28] at hG
          cases hG
        | succ n28 ih28 =>
          intro x28_3 σh28 H locs ls hP hS hl hG
          rw [lp_X8_scale_28] at hG
          refine lv_iload_n hx hb dX8_scale_28 rfl (lv_at hl 3 rfl) ?_
          refine lv_aload_n hx hb dX8_scale_29 rfl (lv_at hl 0 rfl) ?_
          refine gf_X8_135 F hP dX8_scale_30 ?_
          refine lv_icmp_ge (tgt := 55) hx hb dX8_scale_33 (by decide) (fun c33 => ?_) (fun c33 => ?_)
          · have hG := f_ip c33 hG
            cases hG
            exact T28 _ _ _ hP hS (lv_sub hl [0, 1] rfl)
          · have hG := f_in c33 hG
            refine lv_aload_n hx hb dX8_scale_36 rfl (lv_at hl 0 rfl) ?_
            refine gf_X8_72 F hP dX8_scale_37 ?_
            refine lv_iload_n hx hb dX8_scale_40 rfl (lv_at hl 3 rfl) ?_
            refine lv_dup2_11 hx hb dX8_scale_41 rfl rfl ?_
            obtain ⟨h42, hG⟩ := f_gd hG
            have i42 := f_fin h42
            refine x_iald F hP rfl rfl i42 dX8_scale_42 ?_
            refine lv_iload_n hx hb dX8_scale_43 rfl (lv_at hl 2 rfl) ?_
            obtain ⟨r44, σ44, hC44, hG⟩ := f_bd hG
            refine iv_X8_138 F hS hP (c_X8_kindOf l E N a2 σh28 _ _ hC44) ⟨Nat.le_of_ble_eq_true rfl, Nat.le_of_ble_eq_true rfl⟩ hl.1 (Nat.le_of_ble_eq_true rfl) dX8_scale_44 ⟨Nat.zero_le _, Nat.zero_le _⟩ (fun H locs hP hS => ?_)
            refine lv_ixor hx hb dX8_scale_47 ?_
            obtain ⟨h48, hG⟩ := f_gd hG
            have i48 := f_fin h48
            refine x_iast F hS hP rfl rfl i48 dX8_scale_48 (fun H locs hP hS => ?_)
            obtain ⟨σ48, e48⟩ : ∃ t : fS, t = sI σ44 82 (x28_3).toNatClampNeg ((σh28.1 82 (x28_3).toNatClampNeg) ^^^ r44) := ⟨_, rfl⟩
            rw [← e48] at hP
            have hG := f_lt hG e48
            refine lv_iinc (v := (x28_3 + (1 : Int32))) (lv' := [(3, .int (x28_3 + (1 : Int32))), (0, .ref (E.2.1 61)), (1, .int a1), (2, .int a2)]) hx hb dX8_scale_49 hl (k := 3) rfl (by rfl) (by decide) rfl (fun ls hl => ?_)
            refine lv_goto (tgt := 28) hx hb dX8_scale_52 (by decide) ?_
            exact ih28 (x28_3 + (1 : Int32)) σ48 _ _ _ hP hS (lv_sub hl [1, 2, 3, 0] rfl) hG
      exact L28 N (0 : Int32) σ23 _ _ _ hP hS (lv_sub hl [1, 2, 3, 0] rfl) hT28
    · have hG := f_ip c15 hG
      refine lv_bipush (v := -102) hx hb dX8_scale_18 (by decide) ?_
      exact x_ri hR hS hP hG dX8_scale_20
  · have hG := f_ip c5 hG
    refine lv_bipush (v := -101) hx hb dX8_scale_8 (by decide) ?_
    exact x_ri hR hS hP hG dX8_scale_10
theorem dX8_isSquared_0 : decode cX8_isSquared 0 = .ok (.iconst 0, 1) := by decide +kernel
theorem dX8_isSquared_1 : decode cX8_isSquared 1 = .ok (.istore_n 1, 1) := by decide +kernel
theorem dX8_isSquared_2 : decode cX8_isSquared 2 = .ok (.iload_n 1, 1) := by decide +kernel
theorem dX8_isSquared_3 : decode cX8_isSquared 3 = .ok (.sipush 4000, 3) := by decide +kernel
theorem dX8_isSquared_6 : decode cX8_isSquared 6 = .ok (.if_icmp .ge 16, 3) := by decide +kernel
theorem dX8_isSquared_9 : decode cX8_isSquared 9 = .ok (.iload_n 1, 1) := by decide +kernel
theorem dX8_isSquared_10 : decode cX8_isSquared 10 = .ok (.iload_n 1, 1) := by decide +kernel
theorem dX8_isSquared_11 : decode cX8_isSquared 11 = .ok (.imul, 1) := by decide +kernel
theorem dX8_isSquared_12 : decode cX8_isSquared 12 = .ok (.iload_n 0, 1) := by decide +kernel
theorem dX8_isSquared_13 : decode cX8_isSquared 13 = .ok (.if_icmp .ge 9, 3) := by decide +kernel
theorem dX8_isSquared_16 : decode cX8_isSquared 16 = .ok (.iinc 1 1, 3) := by decide +kernel
theorem dX8_isSquared_19 : decode cX8_isSquared 19 = .ok (.goto (-17), 3) := by decide +kernel
theorem dX8_isSquared_22 : decode cX8_isSquared 22 = .ok (.iload_n 1, 1) := by decide +kernel
theorem dX8_isSquared_23 : decode cX8_isSquared 23 = .ok (.iload_n 1, 1) := by decide +kernel
theorem dX8_isSquared_24 : decode cX8_isSquared 24 = .ok (.imul, 1) := by decide +kernel
theorem dX8_isSquared_25 : decode cX8_isSquared 25 = .ok (.iload_n 0, 1) := by decide +kernel
theorem dX8_isSquared_26 : decode cX8_isSquared 26 = .ok (.if_icmp .ne 7, 3) := by decide +kernel
theorem dX8_isSquared_29 : decode cX8_isSquared 29 = .ok (.iconst 1, 1) := by decide +kernel
theorem dX8_isSquared_30 : decode cX8_isSquared 30 = .ok (.goto 4, 3) := by decide +kernel
theorem dX8_isSquared_33 : decode cX8_isSquared 33 = .ok (.iconst 0, 1) := by decide +kernel
theorem dX8_isSquared_34 : decode cX8_isSquared 34 = .ok (.ireturn, 1) := by decide +kernel
set_option maxHeartbeats 4000000 in
set_option maxRecDepth 100000 in
theorem c_X8_isSquared (l : Launch) (E : fEv) (N : Nat) (a0 : Int32) (σ : fS) (r : Int32) (τ : fS) (hG : g_X8_isSquared N a0 σ = some (r, τ)) : fM l E yX8_isSquared (.code yX8_isSquared cX8_isSquared 2 (some .boolean)) rm_X8_isSquared [.int a0] σ τ (some (.int r)) := by
  refine f_openZ (by decide) (Nat.le_of_ble_eq_true rfl) ?_
  intro p e s m below meth c args Q F hR hP ls hl
  have hx := F.1.1
  have hb := F.1.2.1
  have hown := F.1.2.2.2.1
  have hts := F.1.2.2.2.2
  have hS : va_S (f_A E) s.heap s.heap [] := va_S.rf
  skip
  have hl : lv_has ls 2 [(0, .int a0)] := hl
  unfold g_X8_isSquared at hG
  refine lv_iconst (v := 0) hx hb dX8_isSquared_0 (by decide) ?_
  refine lv_istore_n (lv' := [(1, .int (0 : Int32)), (0, .int a0)]) hx hb dX8_isSquared_1 rfl hl (by decide) rfl (fun ls hl => ?_)
  obtain ⟨o2, σl2, hT2, hG⟩ := f_bd hG
  have T2 : ∀ (H : Heap) (locs : List Loc) (ls : Array Slot), f_h E σl2 H → va_S (f_A E) s.heap H locs → lv_has ls 2 [(0, .int a0), (1, .int o2)] → W p l e rm_X8_isSquared s m args below meth c H locs 0 0 Q (F0 m 22 ls []) := by
    intro H locs ls hP hS hl
    refine lv_iload_n hx hb dX8_isSquared_22 rfl (lv_at hl 1 rfl) ?_
    refine lv_iload_n hx hb dX8_isSquared_23 rfl (lv_at hl 1 rfl) ?_
    refine lv_imul hx hb dX8_isSquared_24 ?_
    refine lv_iload_n hx hb dX8_isSquared_25 rfl (lv_at hl 0 rfl) ?_
    refine lv_icmp_ne (tgt := 33) hx hb dX8_isSquared_26 (by decide) (fun c26 => ?_) (fun c26 => ?_)
    · have hG := f_in c26 hG
      refine lv_iconst (v := 0) hx hb dX8_isSquared_33 (by decide) ?_
      exact x_rz hR hS hP (Or.inl rfl) hG dX8_isSquared_34
    · have hG := f_ip c26 hG
      refine lv_iconst (v := 1) hx hb dX8_isSquared_29 (by decide) ?_
      refine lv_goto (tgt := 34) hx hb dX8_isSquared_30 (by decide) ?_
      exact x_rz hR hS hP (Or.inr rfl) hG dX8_isSquared_34
  have L2 : ∀ (n2 : Nat) (x2_1 : Int32) (σh2 : fS) (H : Heap) (locs : List Loc) (ls : Array Slot), f_h E σh2 H → va_S (f_A E) s.heap H locs → lv_has ls 2 [(0, .int a0), (1, .int x2_1)] → lp_X8_isSquared_2 N a0 n2 x2_1 σh2 = some (o2, σl2) → W p l e rm_X8_isSquared s m args below meth c H locs 0 0 Q (F0 m 2 ls []) := by
    intro n2
    induction n2 with
    | zero =>
      intro x2_1 σh2 H locs ls hP hS hl hG
      rw [lp_X8_isSquared_2] at hG
      cases hG
    | succ n2 ih2 =>
      intro x2_1 σh2 H locs ls hP hS hl hG
      rw [lp_X8_isSquared_2] at hG
      refine lv_iload_n hx hb dX8_isSquared_2 rfl (lv_at hl 1 rfl) ?_
      refine lv_sipush (v := 4000) hx hb dX8_isSquared_3 (by decide) ?_
      refine lv_icmp_ge (tgt := 22) hx hb dX8_isSquared_6 (by decide) (fun c6 => ?_) (fun c6 => ?_)
      · have hG := f_ip c6 hG
        cases hG
        exact T2 _ _ _ hP hS (lv_sub hl [0, 1] rfl)
      · have hG := f_in c6 hG
        refine lv_iload_n hx hb dX8_isSquared_9 rfl (lv_at hl 1 rfl) ?_
        refine lv_iload_n hx hb dX8_isSquared_10 rfl (lv_at hl 1 rfl) ?_
        refine lv_imul hx hb dX8_isSquared_11 ?_
        refine lv_iload_n hx hb dX8_isSquared_12 rfl (lv_at hl 0 rfl) ?_
        refine lv_icmp_ge (tgt := 22) hx hb dX8_isSquared_13 (by decide) (fun c13 => ?_) (fun c13 => ?_)
        · have hG := f_ip c13 hG
          cases hG
          exact T2 _ _ _ hP hS (lv_sub hl [0, 1] rfl)
        · have hG := f_in c13 hG
          refine lv_iinc (v := (x2_1 + (1 : Int32))) (lv' := [(1, .int (x2_1 + (1 : Int32))), (0, .int a0)]) hx hb dX8_isSquared_16 hl (k := 1) rfl (by rfl) (by decide) rfl (fun ls hl => ?_)
          refine lv_goto (tgt := 2) hx hb dX8_isSquared_19 (by decide) ?_
          exact ih2 (x2_1 + (1 : Int32)) σh2 _ _ _ hP hS (lv_sub hl [1, 0] rfl) hG
  exact L2 N (0 : Int32) σ _ _ _ hP hS (lv_sub hl [1, 0] rfl) hT2
theorem dX8_turn_0 : decode cX8_turn 0 = .ok (.aload_n 0, 1) := by decide +kernel
theorem dX8_turn_1 : decode cX8_turn 1 = .ok (.iload_n 1, 1) := by decide +kernel
theorem dX8_turn_2 : decode cX8_turn 2 = .ok (.iload_n 2, 1) := by decide +kernel
theorem dX8_turn_3 : decode cX8_turn 3 = .ok (.invokevirtual 183, 3) := by decide +kernel
theorem dX8_turn_6 : decode cX8_turn 6 = .ok (.ifCond .eq 12, 3) := by decide +kernel
theorem dX8_turn_9 : decode cX8_turn 9 = .ok (.aload_n 0, 1) := by decide +kernel
theorem dX8_turn_10 : decode cX8_turn 10 = .ok (.iload_n 1, 1) := by decide +kernel
theorem dX8_turn_11 : decode cX8_turn 11 = .ok (.iload_n 3, 1) := by decide +kernel
theorem dX8_turn_12 : decode cX8_turn 12 = .ok (.invokevirtual 183, 3) := by decide +kernel
theorem dX8_turn_15 : decode cX8_turn 15 = .ok (.ifCond .ne 6, 3) := by decide +kernel
theorem dX8_turn_18 : decode cX8_turn 18 = .ok (.bipush (-101), 2) := by decide +kernel
theorem dX8_turn_20 : decode cX8_turn 20 = .ok (.ireturn, 1) := by decide +kernel
theorem dX8_turn_21 : decode cX8_turn 21 = .ok (.iload 4, 2) := by decide +kernel
theorem dX8_turn_23 : decode cX8_turn 23 = .ok (.iconst 0, 1) := by decide +kernel
theorem dX8_turn_24 : decode cX8_turn 24 = .ok (.bipush 15, 2) := by decide +kernel
theorem dX8_turn_26 : decode cX8_turn 26 = .ok (.invokestatic 89, 3) := by decide +kernel
theorem dX8_turn_29 : decode cX8_turn 29 = .ok (.ifCond .eq 14, 3) := by decide +kernel
theorem dX8_turn_32 : decode cX8_turn 32 = .ok (.iload 5, 2) := by decide +kernel
theorem dX8_turn_34 : decode cX8_turn 34 = .ok (.iconst 0, 1) := by decide +kernel
theorem dX8_turn_35 : decode cX8_turn 35 = .ok (.bipush 15, 2) := by decide +kernel
theorem dX8_turn_37 : decode cX8_turn 37 = .ok (.invokestatic 89, 3) := by decide +kernel
theorem dX8_turn_40 : decode cX8_turn 40 = .ok (.ifCond .ne 6, 3) := by decide +kernel
theorem dX8_turn_43 : decode cX8_turn 43 = .ok (.bipush (-102), 2) := by decide +kernel
theorem dX8_turn_45 : decode cX8_turn 45 = .ok (.ireturn, 1) := by decide +kernel
theorem dX8_turn_46 : decode cX8_turn 46 = .ok (.aload_n 0, 1) := by decide +kernel
theorem dX8_turn_47 : decode cX8_turn 47 = .ok (.getfield 13, 3) := by decide +kernel
theorem dX8_turn_50 : decode cX8_turn 50 = .ok (.iconst 4, 1) := by decide +kernel
theorem dX8_turn_51 : decode cX8_turn 51 = .ok (.iload_n 1, 1) := by decide +kernel
theorem dX8_turn_52 : decode cX8_turn 52 = .ok (.imul, 1) := by decide +kernel
theorem dX8_turn_53 : decode cX8_turn 53 = .ok (.iload_n 2, 1) := by decide +kernel
theorem dX8_turn_54 : decode cX8_turn 54 = .ok (.iadd, 1) := by decide +kernel
theorem dX8_turn_55 : decode cX8_turn 55 = .ok (.iaload, 1) := by decide +kernel
theorem dX8_turn_56 : decode cX8_turn 56 = .ok (.istore 6, 2) := by decide +kernel
theorem dX8_turn_58 : decode cX8_turn 58 = .ok (.aload_n 0, 1) := by decide +kernel
theorem dX8_turn_59 : decode cX8_turn 59 = .ok (.getfield 13, 3) := by decide +kernel
theorem dX8_turn_62 : decode cX8_turn 62 = .ok (.iconst 4, 1) := by decide +kernel
theorem dX8_turn_63 : decode cX8_turn 63 = .ok (.iload_n 1, 1) := by decide +kernel
theorem dX8_turn_64 : decode cX8_turn 64 = .ok (.imul, 1) := by decide +kernel
theorem dX8_turn_65 : decode cX8_turn 65 = .ok (.iload_n 3, 1) := by decide +kernel
theorem dX8_turn_66 : decode cX8_turn 66 = .ok (.iadd, 1) := by decide +kernel
theorem dX8_turn_67 : decode cX8_turn 67 = .ok (.iaload, 1) := by decide +kernel
theorem dX8_turn_68 : decode cX8_turn 68 = .ok (.istore 7, 2) := by decide +kernel
theorem dX8_turn_70 : decode cX8_turn 70 = .ok (.iload 6, 2) := by decide +kernel
theorem dX8_turn_72 : decode cX8_turn 72 = .ok (.invokestatic 96, 3) := by decide +kernel
theorem dX8_turn_75 : decode cX8_turn 75 = .ok (.iload 4, 2) := by decide +kernel
theorem dX8_turn_77 : decode cX8_turn 77 = .ok (.imul, 1) := by decide +kernel
theorem dX8_turn_78 : decode cX8_turn 78 = .ok (.iload 4, 2) := by decide +kernel
theorem dX8_turn_80 : decode cX8_turn 80 = .ok (.imul, 1) := by decide +kernel
theorem dX8_turn_81 : decode cX8_turn 81 = .ok (.iload 7, 2) := by decide +kernel
theorem dX8_turn_83 : decode cX8_turn 83 = .ok (.invokestatic 96, 3) := by decide +kernel
theorem dX8_turn_86 : decode cX8_turn 86 = .ok (.iload 5, 2) := by decide +kernel
theorem dX8_turn_88 : decode cX8_turn 88 = .ok (.imul, 1) := by decide +kernel
theorem dX8_turn_89 : decode cX8_turn 89 = .ok (.iload 5, 2) := by decide +kernel
theorem dX8_turn_91 : decode cX8_turn 91 = .ok (.imul, 1) := by decide +kernel
theorem dX8_turn_92 : decode cX8_turn 92 = .ok (.iadd, 1) := by decide +kernel
theorem dX8_turn_93 : decode cX8_turn 93 = .ok (.istore 8, 2) := by decide +kernel
theorem dX8_turn_95 : decode cX8_turn 95 = .ok (.iload_n 2, 1) := by decide +kernel
theorem dX8_turn_96 : decode cX8_turn 96 = .ok (.iload_n 3, 1) := by decide +kernel
theorem dX8_turn_97 : decode cX8_turn 97 = .ok (.if_icmp .eq 25, 3) := by decide +kernel
theorem dX8_turn_100 : decode cX8_turn 100 = .ok (.iload 8, 2) := by decide +kernel
theorem dX8_turn_102 : decode cX8_turn 102 = .ok (.ifCond .eq 20, 3) := by decide +kernel
theorem dX8_turn_105 : decode cX8_turn 105 = .ok (.iload 8, 2) := by decide +kernel
theorem dX8_turn_107 : decode cX8_turn 107 = .ok (.iload 8, 2) := by decide +kernel
theorem dX8_turn_109 : decode cX8_turn 109 = .ok (.invokestatic 138, 3) := by decide +kernel
theorem dX8_turn_112 : decode cX8_turn 112 = .ok (.invokestatic 96, 3) := by decide +kernel
theorem dX8_turn_115 : decode cX8_turn 115 = .ok (.idiv, 1) := by decide +kernel
theorem dX8_turn_116 : decode cX8_turn 116 = .ok (.invokestatic 254, 3) := by decide +kernel
theorem dX8_turn_119 : decode cX8_turn 119 = .ok (.ifCond .ne 6, 3) := by decide +kernel
theorem dX8_turn_122 : decode cX8_turn 122 = .ok (.bipush (-103), 2) := by decide +kernel
theorem dX8_turn_124 : decode cX8_turn 124 = .ok (.ireturn, 1) := by decide +kernel
theorem dX8_turn_125 : decode cX8_turn 125 = .ok (.aload_n 0, 1) := by decide +kernel
theorem dX8_turn_126 : decode cX8_turn 126 = .ok (.iload_n 1, 1) := by decide +kernel
theorem dX8_turn_127 : decode cX8_turn 127 = .ok (.invokevirtual 251, 3) := by decide +kernel
theorem dX8_turn_130 : decode cX8_turn 130 = .ok (.aload_n 0, 1) := by decide +kernel
theorem dX8_turn_131 : decode cX8_turn 131 = .ok (.getfield 72, 3) := by decide +kernel
theorem dX8_turn_134 : decode cX8_turn 134 = .ok (.iload_n 2, 1) := by decide +kernel
theorem dX8_turn_135 : decode cX8_turn 135 = .ok (.iload 8, 2) := by decide +kernel
theorem dX8_turn_137 : decode cX8_turn 137 = .ok (.invokestatic 138, 3) := by decide +kernel
theorem dX8_turn_140 : decode cX8_turn 140 = .ok (.iastore, 1) := by decide +kernel
theorem dX8_turn_141 : decode cX8_turn 141 = .ok (.aload_n 0, 1) := by decide +kernel
theorem dX8_turn_142 : decode cX8_turn 142 = .ok (.getfield 72, 3) := by decide +kernel
theorem dX8_turn_145 : decode cX8_turn 145 = .ok (.iload_n 3, 1) := by decide +kernel
theorem dX8_turn_146 : decode cX8_turn 146 = .ok (.iload 6, 2) := by decide +kernel
theorem dX8_turn_148 : decode cX8_turn 148 = .ok (.iload 7, 2) := by decide +kernel
theorem dX8_turn_150 : decode cX8_turn 150 = .ok (.ixor, 1) := by decide +kernel
theorem dX8_turn_151 : decode cX8_turn 151 = .ok (.iload 8, 2) := by decide +kernel
theorem dX8_turn_153 : decode cX8_turn 153 = .ok (.invokestatic 138, 3) := by decide +kernel
theorem dX8_turn_156 : decode cX8_turn 156 = .ok (.ixor, 1) := by decide +kernel
theorem dX8_turn_157 : decode cX8_turn 157 = .ok (.iastore, 1) := by decide +kernel
theorem dX8_turn_158 : decode cX8_turn 158 = .ok (.aload_n 0, 1) := by decide +kernel
theorem dX8_turn_159 : decode cX8_turn 159 = .ok (.iload_n 1, 1) := by decide +kernel
theorem dX8_turn_160 : decode cX8_turn 160 = .ok (.invokevirtual 171, 3) := by decide +kernel
theorem dX8_turn_163 : decode cX8_turn 163 = .ok (.pop, 1) := by decide +kernel
theorem dX8_turn_164 : decode cX8_turn 164 = .ok (.iload 8, 2) := by decide +kernel
theorem dX8_turn_166 : decode cX8_turn 166 = .ok (.invokestatic 138, 3) := by decide +kernel
theorem dX8_turn_169 : decode cX8_turn 169 = .ok (.invokestatic 96, 3) := by decide +kernel
theorem dX8_turn_172 : decode cX8_turn 172 = .ok (.ireturn, 1) := by decide +kernel
set_option maxHeartbeats 4000000 in
set_option maxRecDepth 100000 in
theorem c_X8_turn (l : Launch) (E : fEv) (N : Nat) (a1 : Int32) (a2 : Int32) (a3 : Int32) (a4 : Int32) (a5 : Int32) (σ : fS) (r : Int32) (τ : fS) (hG : g_X8_turn N a1 a2 a3 a4 a5 σ = some (r, τ)) : fM l E yX8_turn (.code yX8_turn cX8_turn 9 (some .int)) rm_X8_turn [.ref (E.2.1 61), .int a1, .int a2, .int a3, .int a4, .int a5] σ τ (some (.int r)) := by
  refine f_openI (by decide) (Nat.le_of_ble_eq_true rfl) ?_
  intro p e s m below meth c args Q F hR hP ls hl
  have hx := F.1.1
  have hb := F.1.2.1
  have hown := F.1.2.2.2.1
  have hts := F.1.2.2.2.2
  have hS : va_S (f_A E) s.heap s.heap [] := va_S.rf
  skip
  have hl : lv_has ls 9 [(0, .ref (E.2.1 61)), (1, .int a1), (2, .int a2), (3, .int a3), (4, .int a4), (5, .int a5)] := hl
  unfold g_X8_turn at hG
  refine lv_aload_n hx hb dX8_turn_0 rfl (lv_at hl 0 rfl) ?_
  refine lv_iload_n hx hb dX8_turn_1 rfl (lv_at hl 1 rfl) ?_
  refine lv_iload_n hx hb dX8_turn_2 rfl (lv_at hl 2 rfl) ?_
  obtain ⟨r3, σ3, hC3, hG⟩ := f_bd hG
  refine iv_X8_183 F hS hP (c_X8_isTerm l E N a1 a2 σ _ _ hC3) ⟨Nat.le_of_ble_eq_true rfl, Nat.le_of_ble_eq_true rfl⟩ hl.1 (Nat.le_of_ble_eq_true rfl) dX8_turn_3 ⟨Nat.zero_le _, Nat.zero_le _⟩ (fun H locs hP hS => ?_)
  refine lv_if_eq (tgt := 18) hx hb dX8_turn_6 (by decide) (fun c6 => ?_) (fun c6 => ?_)
  · have hG := f_ip c6 hG
    refine lv_bipush (v := -101) hx hb dX8_turn_18 (by decide) ?_
    exact x_ri hR hS hP hG dX8_turn_20
  · have hG := f_in c6 hG
    refine lv_aload_n hx hb dX8_turn_9 rfl (lv_at hl 0 rfl) ?_
    refine lv_iload_n hx hb dX8_turn_10 rfl (lv_at hl 1 rfl) ?_
    refine lv_iload_n hx hb dX8_turn_11 rfl (lv_at hl 3 rfl) ?_
    obtain ⟨r12, σ12, hC12, hG⟩ := f_bd hG
    refine iv_X8_183 F hS hP (c_X8_isTerm l E N a1 a3 σ3 _ _ hC12) ⟨Nat.le_of_ble_eq_true rfl, Nat.le_of_ble_eq_true rfl⟩ hl.1 (Nat.le_of_ble_eq_true rfl) dX8_turn_12 ⟨Nat.zero_le _, Nat.zero_le _⟩ (fun H locs hP hS => ?_)
    refine lv_if_ne (tgt := 21) hx hb dX8_turn_15 (by decide) (fun c15 => ?_) (fun c15 => ?_)
    · have hG := f_in c15 hG
      refine lv_iload hx hb dX8_turn_21 (lv_at hl 4 rfl) ?_
      refine lv_iconst (v := 0) hx hb dX8_turn_23 (by decide) ?_
      refine lv_bipush (v := 15) hx hb dX8_turn_24 (by decide) ?_
      obtain ⟨r26, σ26, hC26, hG⟩ := f_bd hG
      refine iv_X8_89 F hS hP (c_X8_within l E N a4 (0 : Int32) (15 : Int32) σ12 _ _ hC26) ⟨Nat.le_of_ble_eq_true rfl, Nat.le_of_ble_eq_true rfl⟩ hl.1 (Nat.le_of_ble_eq_true rfl) dX8_turn_26 ⟨Nat.zero_le _, Nat.zero_le _⟩ (fun H locs hP hS => ?_)
      refine lv_if_eq (tgt := 43) hx hb dX8_turn_29 (by decide) (fun c29 => ?_) (fun c29 => ?_)
      · have hG := f_ip c29 hG
        refine lv_bipush (v := -102) hx hb dX8_turn_43 (by decide) ?_
        exact x_ri hR hS hP hG dX8_turn_45
      · have hG := f_in c29 hG
        refine lv_iload hx hb dX8_turn_32 (lv_at hl 5 rfl) ?_
        refine lv_iconst (v := 0) hx hb dX8_turn_34 (by decide) ?_
        refine lv_bipush (v := 15) hx hb dX8_turn_35 (by decide) ?_
        obtain ⟨r37, σ37, hC37, hG⟩ := f_bd hG
        refine iv_X8_89 F hS hP (c_X8_within l E N a5 (0 : Int32) (15 : Int32) σ26 _ _ hC37) ⟨Nat.le_of_ble_eq_true rfl, Nat.le_of_ble_eq_true rfl⟩ hl.1 (Nat.le_of_ble_eq_true rfl) dX8_turn_37 ⟨Nat.zero_le _, Nat.zero_le _⟩ (fun H locs hP hS => ?_)
        refine lv_if_ne (tgt := 46) hx hb dX8_turn_40 (by decide) (fun c40 => ?_) (fun c40 => ?_)
        · have hG := f_in c40 hG
          refine lv_aload_n hx hb dX8_turn_46 rfl (lv_at hl 0 rfl) ?_
          refine gf_X8_13 F hP dX8_turn_47 ?_
          refine lv_iconst (v := 4) hx hb dX8_turn_50 (by decide) ?_
          refine lv_iload_n hx hb dX8_turn_51 rfl (lv_at hl 1 rfl) ?_
          refine lv_imul hx hb dX8_turn_52 ?_
          refine lv_iload_n hx hb dX8_turn_53 rfl (lv_at hl 2 rfl) ?_
          refine lv_iadd hx hb dX8_turn_54 ?_
          obtain ⟨h55, hG⟩ := f_gd hG
          have i55 := f_fin h55
          refine x_iald F hP rfl rfl i55 dX8_turn_55 ?_
          refine lv_topi (fun v56 e56 => ?_)
          have hG := f_lt hG e56
          refine lv_istore (lv' := [(6, .int v56), (0, .ref (E.2.1 61)), (1, .int a1), (2, .int a2), (3, .int a3), (4, .int a4), (5, .int a5)]) hx hb dX8_turn_56 hl (by decide) rfl (fun ls hl => ?_)
          refine lv_aload_n hx hb dX8_turn_58 rfl (lv_at hl 1 rfl) ?_
          refine gf_X8_13 F hP dX8_turn_59 ?_
          refine lv_iconst (v := 4) hx hb dX8_turn_62 (by decide) ?_
          refine lv_iload_n hx hb dX8_turn_63 rfl (lv_at hl 2 rfl) ?_
          refine lv_imul hx hb dX8_turn_64 ?_
          refine lv_iload_n hx hb dX8_turn_65 rfl (lv_at hl 4 rfl) ?_
          refine lv_iadd hx hb dX8_turn_66 ?_
          obtain ⟨h67, hG⟩ := f_gd hG
          have i67 := f_fin h67
          refine x_iald F hP rfl rfl i67 dX8_turn_67 ?_
          refine lv_topi (fun v68 e68 => ?_)
          have hG := f_lt hG e68
          refine lv_istore (lv' := [(7, .int v68), (6, .int v56), (0, .ref (E.2.1 61)), (1, .int a1), (2, .int a2), (3, .int a3), (4, .int a4), (5, .int a5)]) hx hb dX8_turn_68 hl (by decide) rfl (fun ls hl => ?_)
          refine lv_iload hx hb dX8_turn_70 (lv_at hl 1 rfl) ?_
          obtain ⟨r72, σ72, hC72, hG⟩ := f_bd hG
          refine iv_X8_96 F hS hP (c_X8_coreOf l E N v56 σ37 _ _ hC72) ⟨Nat.le_of_ble_eq_true rfl, Nat.le_of_ble_eq_true rfl⟩ hl.1 (Nat.le_of_ble_eq_true rfl) dX8_turn_72 ⟨Nat.zero_le _, Nat.zero_le _⟩ (fun H locs hP hS => ?_)
          refine lv_iload hx hb dX8_turn_75 (lv_at hl 6 rfl) ?_
          refine lv_imul hx hb dX8_turn_77 ?_
          refine lv_iload hx hb dX8_turn_78 (lv_at hl 6 rfl) ?_
          refine lv_imul hx hb dX8_turn_80 ?_
          refine lv_iload hx hb dX8_turn_81 (lv_at hl 0 rfl) ?_
          obtain ⟨r83, σ83, hC83, hG⟩ := f_bd hG
          refine iv_X8_96 F hS hP (c_X8_coreOf l E N v68 σ72 _ _ hC83) ⟨Nat.le_of_ble_eq_true rfl, Nat.le_of_ble_eq_true rfl⟩ hl.1 (Nat.le_of_ble_eq_true rfl) dX8_turn_83 ⟨Nat.zero_le _, Nat.zero_le _⟩ (fun H locs hP hS => ?_)
          refine lv_iload hx hb dX8_turn_86 (lv_at hl 7 rfl) ?_
          refine lv_imul hx hb dX8_turn_88 ?_
          refine lv_iload hx hb dX8_turn_89 (lv_at hl 7 rfl) ?_
          refine lv_imul hx hb dX8_turn_91 ?_
          refine lv_iadd hx hb dX8_turn_92 ?_
          refine lv_topi (fun v93 e93 => ?_)
          have hG := f_lt hG e93
          refine lv_istore (lv' := [(8, .int v93), (7, .int v68), (6, .int v56), (0, .ref (E.2.1 61)), (1, .int a1), (2, .int a2), (3, .int a3), (4, .int a4), (5, .int a5)]) hx hb dX8_turn_93 hl (by decide) rfl (fun ls hl => ?_)
          refine lv_iload_n hx hb dX8_turn_95 rfl (lv_at hl 5 rfl) ?_
          refine lv_iload_n hx hb dX8_turn_96 rfl (lv_at hl 6 rfl) ?_
          refine lv_icmp_eq (tgt := 122) hx hb dX8_turn_97 (by decide) (fun c97 => ?_) (fun c97 => ?_)
          · have hG := f_ip c97 hG
            refine lv_bipush (v := -103) hx hb dX8_turn_122 (by decide) ?_
            exact x_ri hR hS hP hG dX8_turn_124
          · have hG := f_in c97 hG
            refine lv_iload hx hb dX8_turn_100 (lv_at hl 0 rfl) ?_
            refine lv_if_eq (tgt := 122) hx hb dX8_turn_102 (by decide) (fun c102 => ?_) (fun c102 => ?_)
            · have hG := f_ip c102 hG
              refine lv_bipush (v := -103) hx hb dX8_turn_122 (by decide) ?_
              exact x_ri hR hS hP hG dX8_turn_124
            · have hG := f_in c102 hG
              refine lv_iload hx hb dX8_turn_105 (lv_at hl 0 rfl) ?_
              refine lv_iload hx hb dX8_turn_107 (lv_at hl 0 rfl) ?_
              obtain ⟨r109, σ109, hC109, hG⟩ := f_bd hG
              refine iv_X8_138 F hS hP (c_X8_kindOf l E N v93 σ83 _ _ hC109) ⟨Nat.le_of_ble_eq_true rfl, Nat.le_of_ble_eq_true rfl⟩ hl.1 (Nat.le_of_ble_eq_true rfl) dX8_turn_109 ⟨Nat.zero_le _, Nat.zero_le _⟩ (fun H locs hP hS => ?_)
              obtain ⟨r112, σ112, hC112, hG⟩ := f_bd hG
              refine iv_X8_96 F hS hP (c_X8_coreOf l E N r109 σ109 _ _ hC112) ⟨Nat.le_of_ble_eq_true rfl, Nat.le_of_ble_eq_true rfl⟩ hl.1 (Nat.le_of_ble_eq_true rfl) dX8_turn_112 ⟨Nat.zero_le _, Nat.zero_le _⟩ (fun H locs hP hS => ?_)
              obtain ⟨h115, hG⟩ := f_gd hG
              refine lv_idiv hx hb dX8_turn_115 (f_nz h115) ?_
              obtain ⟨r116, σ116, hC116, hG⟩ := f_bd hG
              refine iv_X8_254 F hS hP (c_X8_isSquared l E N (v93 / r112) σ112 _ _ hC116) ⟨Nat.le_of_ble_eq_true rfl, Nat.le_of_ble_eq_true rfl⟩ hl.1 (Nat.le_of_ble_eq_true rfl) dX8_turn_116 ⟨Nat.zero_le _, Nat.zero_le _⟩ (fun H locs hP hS => ?_)
              refine lv_if_ne (tgt := 125) hx hb dX8_turn_119 (by decide) (fun c119 => ?_) (fun c119 => ?_)
              · have hG := f_in c119 hG
                refine lv_aload_n hx hb dX8_turn_125 rfl (lv_at hl 3 rfl) ?_
                refine lv_iload_n hx hb dX8_turn_126 rfl (lv_at hl 4 rfl) ?_
                obtain ⟨σ127, hC127, hG⟩ := f_bv hG
                refine iv_X8_251 F hS hP (c_X8_take l E N a1 σ116 _ hC127) ⟨Nat.le_of_ble_eq_true rfl, Nat.le_of_ble_eq_true rfl⟩ hl.1 (Nat.le_of_ble_eq_true rfl) dX8_turn_127 ⟨Nat.zero_le _, Nat.zero_le _⟩ (fun H locs hP hS => ?_)
                refine lv_aload_n hx hb dX8_turn_130 rfl (lv_at hl 3 rfl) ?_
                refine gf_X8_72 F hP dX8_turn_131 ?_
                refine lv_iload_n hx hb dX8_turn_134 rfl (lv_at hl 5 rfl) ?_
                refine lv_iload hx hb dX8_turn_135 (lv_at hl 0 rfl) ?_
                obtain ⟨r137, σ137, hC137, hG⟩ := f_bd hG
                refine iv_X8_138 F hS hP (c_X8_kindOf l E N v93 σ127 _ _ hC137) ⟨Nat.le_of_ble_eq_true rfl, Nat.le_of_ble_eq_true rfl⟩ hl.1 (Nat.le_of_ble_eq_true rfl) dX8_turn_137 ⟨Nat.zero_le _, Nat.zero_le _⟩ (fun H locs hP hS => ?_)
                obtain ⟨h140, hG⟩ := f_gd hG
                have i140 := f_fin h140
                refine x_iast F hS hP rfl rfl i140 dX8_turn_140 (fun H locs hP hS => ?_)
                obtain ⟨σ140, e140⟩ : ∃ t : fS, t = sI σ137 82 (a2).toNatClampNeg r137 := ⟨_, rfl⟩
                rw [← e140] at hP
                have hG := f_lt hG e140
                refine lv_aload_n hx hb dX8_turn_141 rfl (lv_at hl 3 rfl) ?_
                refine gf_X8_72 F hP dX8_turn_142 ?_
                refine lv_iload_n hx hb dX8_turn_145 rfl (lv_at hl 6 rfl) ?_
                refine lv_iload hx hb dX8_turn_146 (lv_at hl 2 rfl) ?_
                refine lv_iload hx hb dX8_turn_148 (lv_at hl 1 rfl) ?_
                refine lv_ixor hx hb dX8_turn_150 ?_
                refine lv_iload hx hb dX8_turn_151 (lv_at hl 0 rfl) ?_
                obtain ⟨r153, σ153, hC153, hG⟩ := f_bd hG
                refine iv_X8_138 F hS hP (c_X8_kindOf l E N v93 σ140 _ _ hC153) ⟨Nat.le_of_ble_eq_true rfl, Nat.le_of_ble_eq_true rfl⟩ hl.1 (Nat.le_of_ble_eq_true rfl) dX8_turn_153 ⟨Nat.zero_le _, Nat.zero_le _⟩ (fun H locs hP hS => ?_)
                refine lv_ixor hx hb dX8_turn_156 ?_
                obtain ⟨h157, hG⟩ := f_gd hG
                have i157 := f_fin h157
                refine x_iast F hS hP rfl rfl i157 dX8_turn_157 (fun H locs hP hS => ?_)
                obtain ⟨σ157, e157⟩ : ∃ t : fS, t = sI σ153 82 (a3).toNatClampNeg ((v56 ^^^ v68) ^^^ r153) := ⟨_, rfl⟩
                rw [← e157] at hP
                have hG := f_lt hG e157
                refine lv_aload_n hx hb dX8_turn_158 rfl (lv_at hl 3 rfl) ?_
                refine lv_iload_n hx hb dX8_turn_159 rfl (lv_at hl 4 rfl) ?_
                obtain ⟨r160, σ160, hC160, hG⟩ := f_bd hG
                refine iv_X8_171 F hS hP (c_X8_layNew l E N a1 σ157 _ _ hC160) ⟨Nat.le_of_ble_eq_true rfl, Nat.le_of_ble_eq_true rfl⟩ hl.1 (Nat.le_of_ble_eq_true rfl) dX8_turn_160 ⟨Nat.zero_le _, Nat.zero_le _⟩ (fun H locs hP hS => ?_)
                refine lv_pop hx hb dX8_turn_163 rfl ?_
                refine lv_iload hx hb dX8_turn_164 (lv_at hl 0 rfl) ?_
                obtain ⟨r166, σ166, hC166, hG⟩ := f_bd hG
                refine iv_X8_138 F hS hP (c_X8_kindOf l E N v93 σ160 _ _ hC166) ⟨Nat.le_of_ble_eq_true rfl, Nat.le_of_ble_eq_true rfl⟩ hl.1 (Nat.le_of_ble_eq_true rfl) dX8_turn_166 ⟨Nat.zero_le _, Nat.zero_le _⟩ (fun H locs hP hS => ?_)
                obtain ⟨r169, σ169, hC169, hG⟩ := f_bd hG
                refine iv_X8_96 F hS hP (c_X8_coreOf l E N r166 σ166 _ _ hC169) ⟨Nat.le_of_ble_eq_true rfl, Nat.le_of_ble_eq_true rfl⟩ hl.1 (Nat.le_of_ble_eq_true rfl) dX8_turn_169 ⟨Nat.zero_le _, Nat.zero_le _⟩ (fun H locs hP hS => ?_)
                exact x_ri hR hS hP hG dX8_turn_172
              · have hG := f_ip c119 hG
                refine lv_bipush (v := -103) hx hb dX8_turn_122 (by decide) ?_
                exact x_ri hR hS hP hG dX8_turn_124
        · have hG := f_ip c40 hG
          refine lv_bipush (v := -102) hx hb dX8_turn_43 (by decide) ?_
          exact x_ri hR hS hP hG dX8_turn_45
    · have hG := f_ip c15 hG
      refine lv_bipush (v := -101) hx hb dX8_turn_18 (by decide) ?_
      exact x_ri hR hS hP hG dX8_turn_20
theorem dX8_drop_0 : decode cX8_drop 0 = .ok (.aload_n 0, 1) := by decide +kernel
theorem dX8_drop_1 : decode cX8_drop 1 = .ok (.iload_n 1, 1) := by decide +kernel
theorem dX8_drop_2 : decode cX8_drop 2 = .ok (.iload_n 2, 1) := by decide +kernel
theorem dX8_drop_3 : decode cX8_drop 3 = .ok (.invokevirtual 183, 3) := by decide +kernel
theorem dX8_drop_6 : decode cX8_drop 6 = .ok (.ifCond .ne 6, 3) := by decide +kernel
theorem dX8_drop_9 : decode cX8_drop 9 = .ok (.bipush (-101), 2) := by decide +kernel
theorem dX8_drop_11 : decode cX8_drop 11 = .ok (.ireturn, 1) := by decide +kernel
theorem dX8_drop_12 : decode cX8_drop 12 = .ok (.aload_n 0, 1) := by decide +kernel
theorem dX8_drop_13 : decode cX8_drop 13 = .ok (.getfield 7, 3) := by decide +kernel
theorem dX8_drop_16 : decode cX8_drop 16 = .ok (.iload_n 1, 1) := by decide +kernel
theorem dX8_drop_17 : decode cX8_drop 17 = .ok (.iaload, 1) := by decide +kernel
theorem dX8_drop_18 : decode cX8_drop 18 = .ok (.iconst 1, 1) := by decide +kernel
theorem dX8_drop_19 : decode cX8_drop 19 = .ok (.if_icmp .ne 6, 3) := by decide +kernel
theorem dX8_drop_22 : decode cX8_drop 22 = .ok (.bipush (-103), 2) := by decide +kernel
theorem dX8_drop_24 : decode cX8_drop 24 = .ok (.ireturn, 1) := by decide +kernel
theorem dX8_drop_25 : decode cX8_drop 25 = .ok (.aload_n 0, 1) := by decide +kernel
theorem dX8_drop_26 : decode cX8_drop 26 = .ok (.iload_n 1, 1) := by decide +kernel
theorem dX8_drop_27 : decode cX8_drop 27 = .ok (.invokevirtual 251, 3) := by decide +kernel
theorem dX8_drop_30 : decode cX8_drop 30 = .ok (.iload_n 2, 1) := by decide +kernel
theorem dX8_drop_31 : decode cX8_drop 31 = .ok (.istore_n 3, 1) := by decide +kernel
theorem dX8_drop_32 : decode cX8_drop 32 = .ok (.iload_n 3, 1) := by decide +kernel
theorem dX8_drop_33 : decode cX8_drop 33 = .ok (.aload_n 0, 1) := by decide +kernel
theorem dX8_drop_34 : decode cX8_drop 34 = .ok (.getfield 135, 3) := by decide +kernel
theorem dX8_drop_37 : decode cX8_drop 37 = .ok (.iconst 1, 1) := by decide +kernel
theorem dX8_drop_38 : decode cX8_drop 38 = .ok (.isub, 1) := by decide +kernel
theorem dX8_drop_39 : decode cX8_drop 39 = .ok (.if_icmp .ge 23, 3) := by decide +kernel
theorem dX8_drop_42 : decode cX8_drop 42 = .ok (.aload_n 0, 1) := by decide +kernel
theorem dX8_drop_43 : decode cX8_drop 43 = .ok (.getfield 72, 3) := by decide +kernel
theorem dX8_drop_46 : decode cX8_drop 46 = .ok (.iload_n 3, 1) := by decide +kernel
theorem dX8_drop_47 : decode cX8_drop 47 = .ok (.aload_n 0, 1) := by decide +kernel
theorem dX8_drop_48 : decode cX8_drop 48 = .ok (.getfield 72, 3) := by decide +kernel
theorem dX8_drop_51 : decode cX8_drop 51 = .ok (.iload_n 3, 1) := by decide +kernel
theorem dX8_drop_52 : decode cX8_drop 52 = .ok (.iconst 1, 1) := by decide +kernel
theorem dX8_drop_53 : decode cX8_drop 53 = .ok (.iadd, 1) := by decide +kernel
theorem dX8_drop_54 : decode cX8_drop 54 = .ok (.iaload, 1) := by decide +kernel
theorem dX8_drop_55 : decode cX8_drop 55 = .ok (.iastore, 1) := by decide +kernel
theorem dX8_drop_56 : decode cX8_drop 56 = .ok (.iinc 3 1, 3) := by decide +kernel
theorem dX8_drop_59 : decode cX8_drop 59 = .ok (.goto (-27), 3) := by decide +kernel
theorem dX8_drop_62 : decode cX8_drop 62 = .ok (.aload_n 0, 1) := by decide +kernel
theorem dX8_drop_63 : decode cX8_drop 63 = .ok (.dup, 1) := by decide +kernel
theorem dX8_drop_64 : decode cX8_drop 64 = .ok (.getfield 135, 3) := by decide +kernel
theorem dX8_drop_67 : decode cX8_drop 67 = .ok (.iconst 1, 1) := by decide +kernel
theorem dX8_drop_68 : decode cX8_drop 68 = .ok (.isub, 1) := by decide +kernel
theorem dX8_drop_69 : decode cX8_drop 69 = .ok (.putfield 135, 3) := by decide +kernel
theorem dX8_drop_72 : decode cX8_drop 72 = .ok (.aload_n 0, 1) := by decide +kernel
theorem dX8_drop_73 : decode cX8_drop 73 = .ok (.iload_n 1, 1) := by decide +kernel
theorem dX8_drop_74 : decode cX8_drop 74 = .ok (.invokevirtual 171, 3) := by decide +kernel
theorem dX8_drop_77 : decode cX8_drop 77 = .ok (.ireturn, 1) := by decide +kernel
set_option maxHeartbeats 4000000 in
set_option maxRecDepth 100000 in
theorem c_X8_drop (l : Launch) (E : fEv) (N : Nat) (a1 : Int32) (a2 : Int32) (σ : fS) (r : Int32) (τ : fS) (hG : g_X8_drop N a1 a2 σ = some (r, τ)) : fM l E yX8_drop (.code yX8_drop cX8_drop 4 (some .int)) rm_X8_drop [.ref (E.2.1 61), .int a1, .int a2] σ τ (some (.int r)) := by
  refine f_openI (by decide) (Nat.le_of_ble_eq_true rfl) ?_
  intro p e s m below meth c args Q F hR hP ls hl
  have hx := F.1.1
  have hb := F.1.2.1
  have hown := F.1.2.2.2.1
  have hts := F.1.2.2.2.2
  have hS : va_S (f_A E) s.heap s.heap [] := va_S.rf
  skip
  have hl : lv_has ls 4 [(0, .ref (E.2.1 61)), (1, .int a1), (2, .int a2)] := hl
  unfold g_X8_drop at hG
  refine lv_aload_n hx hb dX8_drop_0 rfl (lv_at hl 0 rfl) ?_
  refine lv_iload_n hx hb dX8_drop_1 rfl (lv_at hl 1 rfl) ?_
  refine lv_iload_n hx hb dX8_drop_2 rfl (lv_at hl 2 rfl) ?_
  obtain ⟨r3, σ3, hC3, hG⟩ := f_bd hG
  refine iv_X8_183 F hS hP (c_X8_isTerm l E N a1 a2 σ _ _ hC3) ⟨Nat.le_of_ble_eq_true rfl, Nat.le_of_ble_eq_true rfl⟩ hl.1 (Nat.le_of_ble_eq_true rfl) dX8_drop_3 ⟨Nat.zero_le _, Nat.zero_le _⟩ (fun H locs hP hS => ?_)
  refine lv_if_ne (tgt := 12) hx hb dX8_drop_6 (by decide) (fun c6 => ?_) (fun c6 => ?_)
  · have hG := f_in c6 hG
    refine lv_aload_n hx hb dX8_drop_12 rfl (lv_at hl 0 rfl) ?_
    refine gf_X8_7 F hP dX8_drop_13 ?_
    refine lv_iload_n hx hb dX8_drop_16 rfl (lv_at hl 1 rfl) ?_
    obtain ⟨h17, hG⟩ := f_gd hG
    have i17 := f_fin h17
    refine x_iald F hP rfl rfl i17 dX8_drop_17 ?_
    refine lv_iconst (v := 1) hx hb dX8_drop_18 (by decide) ?_
    refine lv_icmp_ne (tgt := 25) hx hb dX8_drop_19 (by decide) (fun c19 => ?_) (fun c19 => ?_)
    · have hG := f_in c19 hG
      refine lv_aload_n hx hb dX8_drop_25 rfl (lv_at hl 0 rfl) ?_
      refine lv_iload_n hx hb dX8_drop_26 rfl (lv_at hl 1 rfl) ?_
      obtain ⟨σ27, hC27, hG⟩ := f_bv hG
      refine iv_X8_251 F hS hP (c_X8_take l E N a1 σ3 _ hC27) ⟨Nat.le_of_ble_eq_true rfl, Nat.le_of_ble_eq_true rfl⟩ hl.1 (Nat.le_of_ble_eq_true rfl) dX8_drop_27 ⟨Nat.zero_le _, Nat.zero_le _⟩ (fun H locs hP hS => ?_)
      refine lv_iload_n hx hb dX8_drop_30 rfl (lv_at hl 2 rfl) ?_
      refine lv_istore_n (lv' := [(3, .int a2), (0, .ref (E.2.1 61)), (1, .int a1), (2, .int a2)]) hx hb dX8_drop_31 rfl hl (by decide) rfl (fun ls hl => ?_)
      obtain ⟨σl32, hT32, hG⟩ := f_bv hG
      have T32 : ∀ (H : Heap) (locs : List Loc) (ls : Array Slot), f_h E σl32 H → va_S (f_A E) s.heap H locs → lv_has ls 4 [(0, .ref (E.2.1 61)), (1, .int a1)] → W p l e rm_X8_drop s m args below meth c H locs 0 0 Q (F0 m 62 ls []) := by
        intro H locs ls hP hS hl
        refine lv_aload_n hx hb dX8_drop_62 rfl (lv_at hl 0 rfl) ?_
        refine lv_dup hx hb dX8_drop_63 rfl ?_
        refine gf_X8_135 F hP dX8_drop_64 ?_
        refine lv_iconst (v := 1) hx hb dX8_drop_67 (by decide) ?_
        refine lv_isub hx hb dX8_drop_68 ?_
        refine pf_X8_135 F hS hP dX8_drop_69 (fun H locs hP hS => ?_)
        obtain ⟨σ69, e69⟩ : ∃ t : fS, t = sI σl32 61 28 ((σl32.1 61 28) - (1 : Int32)) := ⟨_, rfl⟩
        rw [← e69] at hP
        have hG := f_lt hG e69
        refine lv_aload_n hx hb dX8_drop_72 rfl (lv_at hl 0 rfl) ?_
        refine lv_iload_n hx hb dX8_drop_73 rfl (lv_at hl 1 rfl) ?_
        obtain ⟨r74, σ74, hC74, hG⟩ := f_bd hG
        refine iv_X8_171 F hS hP (c_X8_layNew l E N a1 σ69 _ _ hC74) ⟨Nat.le_of_ble_eq_true rfl, Nat.le_of_ble_eq_true rfl⟩ hl.1 (Nat.le_of_ble_eq_true rfl) dX8_drop_74 ⟨Nat.zero_le _, Nat.zero_le _⟩ (fun H locs hP hS => ?_)
        exact x_ri hR hS hP hG dX8_drop_77
      have L32 : ∀ (n32 : Nat) (x32_3 : Int32) (σh32 : fS) (H : Heap) (locs : List Loc) (ls : Array Slot), f_h E σh32 H → va_S (f_A E) s.heap H locs → lv_has ls 4 [(0, .ref (E.2.1 61)), (1, .int a1), (3, .int x32_3)] → lp_X8_drop_32 N a1 n32 x32_3 σh32 = some σl32 → W p l e rm_X8_drop s m args below meth c H locs 0 0 Q (F0 m 32 ls []) := by
        intro n32
        induction n32 with
        | zero =>
          intro x32_3 σh32 H locs ls hP hS hl hG
          rw [lp_X8_drop_32] at hG
          cases hG
        | succ n32 ih32 =>
          intro x32_3 σh32 H locs ls hP hS hl hG
          rw [lp_X8_drop_32] at hG
          refine lv_iload_n hx hb dX8_drop_32 rfl (lv_at hl 2 rfl) ?_
          refine lv_aload_n hx hb dX8_drop_33 rfl (lv_at hl 0 rfl) ?_
          refine gf_X8_135 F hP dX8_drop_34 ?_
          refine lv_iconst (v := 1) hx hb dX8_drop_37 (by decide) ?_
          refine lv_isub hx hb dX8_drop_38 ?_
          refine lv_icmp_ge (tgt := 62) hx hb dX8_drop_39 (by decide) (fun c39 => ?_) (fun c39 => ?_)
          · have hG := f_ip c39 hG
            cases hG
            exact T32 _ _ _ hP hS (lv_sub hl [0, 1] rfl)
          · have hG := f_in c39 hG
            refine lv_aload_n hx hb dX8_drop_42 rfl (lv_at hl 0 rfl) ?_
            refine gf_X8_72 F hP dX8_drop_43 ?_
            refine lv_iload_n hx hb dX8_drop_46 rfl (lv_at hl 2 rfl) ?_
            refine lv_aload_n hx hb dX8_drop_47 rfl (lv_at hl 0 rfl) ?_
            refine gf_X8_72 F hP dX8_drop_48 ?_
            refine lv_iload_n hx hb dX8_drop_51 rfl (lv_at hl 2 rfl) ?_
            refine lv_iconst (v := 1) hx hb dX8_drop_52 (by decide) ?_
            refine lv_iadd hx hb dX8_drop_53 ?_
            obtain ⟨h54, hG⟩ := f_gd hG
            have i54 := f_fin h54
            refine x_iald F hP rfl rfl i54 dX8_drop_54 ?_
            obtain ⟨h55, hG⟩ := f_gd hG
            have i55 := f_fin h55
            refine x_iast F hS hP rfl rfl i55 dX8_drop_55 (fun H locs hP hS => ?_)
            obtain ⟨σ55, e55⟩ : ∃ t : fS, t = sI σh32 82 (x32_3).toNatClampNeg (σh32.1 82 ((x32_3 + (1 : Int32))).toNatClampNeg) := ⟨_, rfl⟩
            rw [← e55] at hP
            have hG := f_lt hG e55
            refine lv_iinc (v := (x32_3 + (1 : Int32))) (lv' := [(3, .int (x32_3 + (1 : Int32))), (0, .ref (E.2.1 61)), (1, .int a1)]) hx hb dX8_drop_56 hl (k := 2) rfl (by rfl) (by decide) rfl (fun ls hl => ?_)
            refine lv_goto (tgt := 32) hx hb dX8_drop_59 (by decide) ?_
            exact ih32 (x32_3 + (1 : Int32)) σ55 _ _ _ hP hS (lv_sub hl [1, 2, 0] rfl) hG
      exact L32 N a2 σ27 _ _ _ hP hS (lv_sub hl [1, 2, 0] rfl) hT32
    · have hG := f_ip c19 hG
      refine lv_bipush (v := -103) hx hb dX8_drop_22 (by decide) ?_
      exact x_ri hR hS hP hG dX8_drop_24
  · have hG := f_ip c6 hG
    refine lv_bipush (v := -101) hx hb dX8_drop_9 (by decide) ?_
    exact x_ri hR hS hP hG dX8_drop_11
theorem dX8_undo_0 : decode cX8_undo 0 = .ok (.aload_n 0, 1) := by decide +kernel
theorem dX8_undo_1 : decode cX8_undo 1 = .ok (.getfield 158, 3) := by decide +kernel
theorem dX8_undo_4 : decode cX8_undo 4 = .ok (.ifCond .ne 6, 3) := by decide +kernel
theorem dX8_undo_7 : decode cX8_undo 7 = .ok (.bipush (-103), 2) := by decide +kernel
theorem dX8_undo_9 : decode cX8_undo 9 = .ok (.ireturn, 1) := by decide +kernel
theorem dX8_undo_10 : decode cX8_undo 10 = .ok (.aload_n 0, 1) := by decide +kernel
theorem dX8_undo_11 : decode cX8_undo 11 = .ok (.dup, 1) := by decide +kernel
theorem dX8_undo_12 : decode cX8_undo 12 = .ok (.getfield 158, 3) := by decide +kernel
theorem dX8_undo_15 : decode cX8_undo 15 = .ok (.iconst 1, 1) := by decide +kernel
theorem dX8_undo_16 : decode cX8_undo 16 = .ok (.isub, 1) := by decide +kernel
theorem dX8_undo_17 : decode cX8_undo 17 = .ok (.putfield 158, 3) := by decide +kernel
theorem dX8_undo_20 : decode cX8_undo 20 = .ok (.aload_n 0, 1) := by decide +kernel
theorem dX8_undo_21 : decode cX8_undo 21 = .ok (.dup, 1) := by decide +kernel
theorem dX8_undo_22 : decode cX8_undo 22 = .ok (.getfield 257, 3) := by decide +kernel
theorem dX8_undo_25 : decode cX8_undo 25 = .ok (.iconst 1, 1) := by decide +kernel
theorem dX8_undo_26 : decode cX8_undo 26 = .ok (.iadd, 1) := by decide +kernel
theorem dX8_undo_27 : decode cX8_undo 27 = .ok (.putfield 257, 3) := by decide +kernel
theorem dX8_undo_30 : decode cX8_undo 30 = .ok (.aload_n 0, 1) := by decide +kernel
theorem dX8_undo_31 : decode cX8_undo 31 = .ok (.getfield 30, 3) := by decide +kernel
theorem dX8_undo_34 : decode cX8_undo 34 = .ok (.aload_n 0, 1) := by decide +kernel
theorem dX8_undo_35 : decode cX8_undo 35 = .ok (.getfield 158, 3) := by decide +kernel
theorem dX8_undo_38 : decode cX8_undo 38 = .ok (.iaload, 1) := by decide +kernel
theorem dX8_undo_39 : decode cX8_undo 39 = .ok (.istore_n 1, 1) := by decide +kernel
theorem dX8_undo_40 : decode cX8_undo 40 = .ok (.aload_n 0, 1) := by decide +kernel
theorem dX8_undo_41 : decode cX8_undo 41 = .ok (.getfield 7, 3) := by decide +kernel
theorem dX8_undo_44 : decode cX8_undo 44 = .ok (.iload_n 1, 1) := by decide +kernel
theorem dX8_undo_45 : decode cX8_undo 45 = .ok (.aload_n 0, 1) := by decide +kernel
theorem dX8_undo_46 : decode cX8_undo 46 = .ok (.getfield 33, 3) := by decide +kernel
theorem dX8_undo_49 : decode cX8_undo 49 = .ok (.aload_n 0, 1) := by decide +kernel
theorem dX8_undo_50 : decode cX8_undo 50 = .ok (.getfield 158, 3) := by decide +kernel
theorem dX8_undo_53 : decode cX8_undo 53 = .ok (.iaload, 1) := by decide +kernel
theorem dX8_undo_54 : decode cX8_undo 54 = .ok (.iastore, 1) := by decide +kernel
theorem dX8_undo_55 : decode cX8_undo 55 = .ok (.iconst 0, 1) := by decide +kernel
theorem dX8_undo_56 : decode cX8_undo 56 = .ok (.istore_n 2, 1) := by decide +kernel
theorem dX8_undo_57 : decode cX8_undo 57 = .ok (.iload_n 2, 1) := by decide +kernel
theorem dX8_undo_58 : decode cX8_undo 58 = .ok (.iconst 4, 1) := by decide +kernel
theorem dX8_undo_59 : decode cX8_undo 59 = .ok (.if_icmp .ge 32, 3) := by decide +kernel
theorem dX8_undo_62 : decode cX8_undo 62 = .ok (.aload_n 0, 1) := by decide +kernel
theorem dX8_undo_63 : decode cX8_undo 63 = .ok (.getfield 13, 3) := by decide +kernel
theorem dX8_undo_66 : decode cX8_undo 66 = .ok (.iconst 4, 1) := by decide +kernel
theorem dX8_undo_67 : decode cX8_undo 67 = .ok (.iload_n 1, 1) := by decide +kernel
theorem dX8_undo_68 : decode cX8_undo 68 = .ok (.imul, 1) := by decide +kernel
theorem dX8_undo_69 : decode cX8_undo 69 = .ok (.iload_n 2, 1) := by decide +kernel
theorem dX8_undo_70 : decode cX8_undo 70 = .ok (.iadd, 1) := by decide +kernel
theorem dX8_undo_71 : decode cX8_undo 71 = .ok (.aload_n 0, 1) := by decide +kernel
theorem dX8_undo_72 : decode cX8_undo 72 = .ok (.getfield 36, 3) := by decide +kernel
theorem dX8_undo_75 : decode cX8_undo 75 = .ok (.iconst 4, 1) := by decide +kernel
theorem dX8_undo_76 : decode cX8_undo 76 = .ok (.aload_n 0, 1) := by decide +kernel
theorem dX8_undo_77 : decode cX8_undo 77 = .ok (.getfield 158, 3) := by decide +kernel
theorem dX8_undo_80 : decode cX8_undo 80 = .ok (.imul, 1) := by decide +kernel
theorem dX8_undo_81 : decode cX8_undo 81 = .ok (.iload_n 2, 1) := by decide +kernel
theorem dX8_undo_82 : decode cX8_undo 82 = .ok (.iadd, 1) := by decide +kernel
theorem dX8_undo_83 : decode cX8_undo 83 = .ok (.iaload, 1) := by decide +kernel
theorem dX8_undo_84 : decode cX8_undo 84 = .ok (.iastore, 1) := by decide +kernel
theorem dX8_undo_85 : decode cX8_undo 85 = .ok (.iinc 2 1, 3) := by decide +kernel
theorem dX8_undo_88 : decode cX8_undo 88 = .ok (.goto (-31), 3) := by decide +kernel
theorem dX8_undo_91 : decode cX8_undo 91 = .ok (.aload_n 0, 1) := by decide +kernel
theorem dX8_undo_92 : decode cX8_undo 92 = .ok (.getfield 16, 3) := by decide +kernel
theorem dX8_undo_95 : decode cX8_undo 95 = .ok (.iload_n 1, 1) := by decide +kernel
theorem dX8_undo_96 : decode cX8_undo 96 = .ok (.iconst 0, 1) := by decide +kernel
theorem dX8_undo_97 : decode cX8_undo 97 = .ok (.bastore, 1) := by decide +kernel
theorem dX8_undo_98 : decode cX8_undo 98 = .ok (.iload_n 1, 1) := by decide +kernel
theorem dX8_undo_99 : decode cX8_undo 99 = .ok (.ireturn, 1) := by decide +kernel
set_option maxHeartbeats 4000000 in
set_option maxRecDepth 100000 in
theorem c_X8_undo (l : Launch) (E : fEv) (N : Nat)  (σ : fS) (r : Int32) (τ : fS) (hG : g_X8_undo N  σ = some (r, τ)) : fM l E yX8_undo (.code yX8_undo cX8_undo 3 (some .int)) rm_X8_undo [.ref (E.2.1 61)] σ τ (some (.int r)) := by
  refine f_openI (by decide) (Nat.le_of_ble_eq_true rfl) ?_
  intro p e s m below meth c args Q F hR hP ls hl
  have hx := F.1.1
  have hb := F.1.2.1
  have hown := F.1.2.2.2.1
  have hts := F.1.2.2.2.2
  have hS : va_S (f_A E) s.heap s.heap [] := va_S.rf
  skip
  have hl : lv_has ls 3 [(0, .ref (E.2.1 61))] := hl
  unfold g_X8_undo at hG
  refine lv_aload_n hx hb dX8_undo_0 rfl (lv_at hl 0 rfl) ?_
  refine gf_X8_158 F hP dX8_undo_1 ?_
  refine lv_if_ne (tgt := 10) hx hb dX8_undo_4 (by decide) (fun c4 => ?_) (fun c4 => ?_)
  · have hG := f_in c4 hG
    refine lv_aload_n hx hb dX8_undo_10 rfl (lv_at hl 0 rfl) ?_
    refine lv_dup hx hb dX8_undo_11 rfl ?_
    refine gf_X8_158 F hP dX8_undo_12 ?_
    refine lv_iconst (v := 1) hx hb dX8_undo_15 (by decide) ?_
    refine lv_isub hx hb dX8_undo_16 ?_
    refine pf_X8_158 F hS hP dX8_undo_17 (fun H locs hP hS => ?_)
    obtain ⟨σ17, e17⟩ : ∃ t : fS, t = sI σ 61 7 ((σ.1 61 7) - (1 : Int32)) := ⟨_, rfl⟩
    rw [← e17] at hP
    have hG := f_lt hG e17
    refine lv_aload_n hx hb dX8_undo_20 rfl (lv_at hl 0 rfl) ?_
    refine lv_dup hx hb dX8_undo_21 rfl ?_
    refine gf_X8_257 F hP dX8_undo_22 ?_
    refine lv_iconst (v := 1) hx hb dX8_undo_25 (by decide) ?_
    refine lv_iadd hx hb dX8_undo_26 ?_
    refine pf_X8_257 F hS hP dX8_undo_27 (fun H locs hP hS => ?_)
    obtain ⟨σ27, e27⟩ : ∃ t : fS, t = sI σ17 61 12 ((σ17.1 61 12) + (1 : Int32)) := ⟨_, rfl⟩
    rw [← e27] at hP
    have hG := f_lt hG e27
    refine lv_aload_n hx hb dX8_undo_30 rfl (lv_at hl 0 rfl) ?_
    refine gf_X8_30 F hP dX8_undo_31 ?_
    refine lv_aload_n hx hb dX8_undo_34 rfl (lv_at hl 0 rfl) ?_
    refine gf_X8_158 F hP dX8_undo_35 ?_
    obtain ⟨h38, hG⟩ := f_gd hG
    have i38 := f_fin h38
    refine x_iald F hP rfl rfl i38 dX8_undo_38 ?_
    refine lv_topi (fun v39 e39 => ?_)
    have hG := f_lt hG e39
    refine lv_istore_n (lv' := [(1, .int v39), (0, .ref (E.2.1 61))]) hx hb dX8_undo_39 rfl hl (by decide) rfl (fun ls hl => ?_)
    refine lv_aload_n hx hb dX8_undo_40 rfl (lv_at hl 1 rfl) ?_
    refine gf_X8_7 F hP dX8_undo_41 ?_
    refine lv_iload_n hx hb dX8_undo_44 rfl (lv_at hl 0 rfl) ?_
    refine lv_aload_n hx hb dX8_undo_45 rfl (lv_at hl 1 rfl) ?_
    refine gf_X8_33 F hP dX8_undo_46 ?_
    refine lv_aload_n hx hb dX8_undo_49 rfl (lv_at hl 1 rfl) ?_
    refine gf_X8_158 F hP dX8_undo_50 ?_
    obtain ⟨h53, hG⟩ := f_gd hG
    have i53 := f_fin h53
    refine x_iald F hP rfl rfl i53 dX8_undo_53 ?_
    obtain ⟨h54, hG⟩ := f_gd hG
    have i54 := f_fin h54
    refine x_iast F hS hP rfl rfl i54 dX8_undo_54 (fun H locs hP hS => ?_)
    obtain ⟨σ54, e54⟩ : ∃ t : fS, t = sI σ27 62 (v39).toNatClampNeg (σ27.1 69 ((σ27.1 61 7)).toNatClampNeg) := ⟨_, rfl⟩
    rw [← e54] at hP
    have hG := f_lt hG e54
    refine lv_iconst (v := 0) hx hb dX8_undo_55 (by decide) ?_
    refine lv_istore_n (lv' := [(2, .int (0 : Int32)), (1, .int v39), (0, .ref (E.2.1 61))]) hx hb dX8_undo_56 rfl hl (by decide) rfl (fun ls hl => ?_)
    obtain ⟨σl57, hT57, hG⟩ := f_bv hG
    have T57 : ∀ (H : Heap) (locs : List Loc) (ls : Array Slot), f_h E σl57 H → va_S (f_A E) s.heap H locs → lv_has ls 3 [(0, .ref (E.2.1 61)), (1, .int v39)] → W p l e rm_X8_undo s m args below meth c H locs 0 0 Q (F0 m 91 ls []) := by
      intro H locs ls hP hS hl
      refine lv_aload_n hx hb dX8_undo_91 rfl (lv_at hl 0 rfl) ?_
      refine gf_X8_16 F hP dX8_undo_92 ?_
      refine lv_iload_n hx hb dX8_undo_95 rfl (lv_at hl 1 rfl) ?_
      refine lv_iconst (v := 0) hx hb dX8_undo_96 (by decide) ?_
      obtain ⟨h97, hG⟩ := f_gd hG
      have i97 := f_fin h97
      refine x_zast F hS hP rfl rfl (x_zB _ (Or.inl rfl)) i97 dX8_undo_97 (fun H locs hP hS => ?_)
      obtain ⟨σ97, e97⟩ : ∃ t : fS, t = sI σl57 64 (v39).toNatClampNeg (0 : Int32) := ⟨_, rfl⟩
      rw [← e97] at hP
      have hG := f_lt hG e97
      refine lv_iload_n hx hb dX8_undo_98 rfl (lv_at hl 1 rfl) ?_
      exact x_ri hR hS hP hG dX8_undo_99
    have L57 : ∀ (n57 : Nat) (x57_2 : Int32) (σh57 : fS) (H : Heap) (locs : List Loc) (ls : Array Slot), f_h E σh57 H → va_S (f_A E) s.heap H locs → lv_has ls 3 [(0, .ref (E.2.1 61)), (1, .int v39), (2, .int x57_2)] → lp_X8_undo_57 N v39 n57 x57_2 σh57 = some σl57 → W p l e rm_X8_undo s m args below meth c H locs 0 0 Q (F0 m 57 ls []) := by
      intro n57
      induction n57 with
      | zero =>
        intro x57_2 σh57 H locs ls hP hS hl hG
        rw [lp_X8_undo_57] at hG
        cases hG
      | succ n57 ih57 =>
        intro x57_2 σh57 H locs ls hP hS hl hG
        rw [lp_X8_undo_57] at hG
        refine lv_iload_n hx hb dX8_undo_57 rfl (lv_at hl 2 rfl) ?_
        refine lv_iconst (v := 4) hx hb dX8_undo_58 (by decide) ?_
        refine lv_icmp_ge (tgt := 91) hx hb dX8_undo_59 (by decide) (fun c59 => ?_) (fun c59 => ?_)
        · have hG := f_ip c59 hG
          cases hG
          exact T57 _ _ _ hP hS (lv_sub hl [0, 1] rfl)
        · have hG := f_in c59 hG
          refine lv_aload_n hx hb dX8_undo_62 rfl (lv_at hl 0 rfl) ?_
          refine gf_X8_13 F hP dX8_undo_63 ?_
          refine lv_iconst (v := 4) hx hb dX8_undo_66 (by decide) ?_
          refine lv_iload_n hx hb dX8_undo_67 rfl (lv_at hl 1 rfl) ?_
          refine lv_imul hx hb dX8_undo_68 ?_
          refine lv_iload_n hx hb dX8_undo_69 rfl (lv_at hl 2 rfl) ?_
          refine lv_iadd hx hb dX8_undo_70 ?_
          refine lv_aload_n hx hb dX8_undo_71 rfl (lv_at hl 0 rfl) ?_
          refine gf_X8_36 F hP dX8_undo_72 ?_
          refine lv_iconst (v := 4) hx hb dX8_undo_75 (by decide) ?_
          refine lv_aload_n hx hb dX8_undo_76 rfl (lv_at hl 0 rfl) ?_
          refine gf_X8_158 F hP dX8_undo_77 ?_
          refine lv_imul hx hb dX8_undo_80 ?_
          refine lv_iload_n hx hb dX8_undo_81 rfl (lv_at hl 2 rfl) ?_
          refine lv_iadd hx hb dX8_undo_82 ?_
          obtain ⟨h83, hG⟩ := f_gd hG
          have i83 := f_fin h83
          refine x_iald F hP rfl rfl i83 dX8_undo_83 ?_
          obtain ⟨h84, hG⟩ := f_gd hG
          have i84 := f_fin h84
          refine x_iast F hS hP rfl rfl i84 dX8_undo_84 (fun H locs hP hS => ?_)
          obtain ⟨σ84, e84⟩ : ∃ t : fS, t = sI σh57 63 ((((4 : Int32) * v39) + x57_2)).toNatClampNeg (σh57.1 70 ((((4 : Int32) * (σh57.1 61 7)) + x57_2)).toNatClampNeg) := ⟨_, rfl⟩
          rw [← e84] at hP
          have hG := f_lt hG e84
          refine lv_iinc (v := (x57_2 + (1 : Int32))) (lv' := [(2, .int (x57_2 + (1 : Int32))), (0, .ref (E.2.1 61)), (1, .int v39)]) hx hb dX8_undo_85 hl (k := 2) rfl (by rfl) (by decide) rfl (fun ls hl => ?_)
          refine lv_goto (tgt := 57) hx hb dX8_undo_88 (by decide) ?_
          exact ih57 (x57_2 + (1 : Int32)) σ84 _ _ _ hP hS (lv_sub hl [1, 2, 0] rfl) hG
    exact L57 N (0 : Int32) σ54 _ _ _ hP hS (lv_sub hl [2, 1, 0] rfl) hT57
  · have hG := f_ip c4 hG
    refine lv_bipush (v := -103) hx hb dX8_undo_7 (by decide) ?_
    exact x_ri hR hS hP hG dX8_undo_9
theorem dX8_common_0 : decode cX8_common 0 = .ok (.iload_n 0, 1) := by decide +kernel
theorem dX8_common_1 : decode cX8_common 1 = .ok (.istore_n 2, 1) := by decide +kernel
theorem dX8_common_2 : decode cX8_common 2 = .ok (.iload_n 1, 1) := by decide +kernel
theorem dX8_common_3 : decode cX8_common 3 = .ok (.ifCond .ge 8, 3) := by decide +kernel
theorem dX8_common_6 : decode cX8_common 6 = .ok (.iload_n 1, 1) := by decide +kernel
theorem dX8_common_7 : decode cX8_common 7 = .ok (.ineg, 1) := by decide +kernel
theorem dX8_common_8 : decode cX8_common 8 = .ok (.goto 4, 3) := by decide +kernel
theorem dX8_common_11 : decode cX8_common 11 = .ok (.iload_n 1, 1) := by decide +kernel
theorem dX8_common_12 : decode cX8_common 12 = .ok (.istore_n 3, 1) := by decide +kernel
theorem dX8_common_13 : decode cX8_common 13 = .ok (.iload_n 3, 1) := by decide +kernel
theorem dX8_common_14 : decode cX8_common 14 = .ok (.ifCond .eq 16, 3) := by decide +kernel
theorem dX8_common_17 : decode cX8_common 17 = .ok (.iload_n 2, 1) := by decide +kernel
theorem dX8_common_18 : decode cX8_common 18 = .ok (.iload_n 3, 1) := by decide +kernel
theorem dX8_common_19 : decode cX8_common 19 = .ok (.irem, 1) := by decide +kernel
theorem dX8_common_20 : decode cX8_common 20 = .ok (.istore 4, 2) := by decide +kernel
theorem dX8_common_22 : decode cX8_common 22 = .ok (.iload_n 3, 1) := by decide +kernel
theorem dX8_common_23 : decode cX8_common 23 = .ok (.istore_n 2, 1) := by decide +kernel
theorem dX8_common_24 : decode cX8_common 24 = .ok (.iload 4, 2) := by decide +kernel
theorem dX8_common_26 : decode cX8_common 26 = .ok (.istore_n 3, 1) := by decide +kernel
theorem dX8_common_27 : decode cX8_common 27 = .ok (.goto (-14), 3) := by decide +kernel
theorem dX8_common_30 : decode cX8_common 30 = .ok (.iload_n 2, 1) := by decide +kernel
theorem dX8_common_31 : decode cX8_common 31 = .ok (.ireturn, 1) := by decide +kernel
set_option maxHeartbeats 4000000 in
set_option maxRecDepth 100000 in
theorem c_X8_common (l : Launch) (E : fEv) (N : Nat) (a0 : Int32) (a1 : Int32) (σ : fS) (r : Int32) (τ : fS) (hG : g_X8_common N a0 a1 σ = some (r, τ)) : fM l E yX8_common (.code yX8_common cX8_common 5 (some .int)) rm_X8_common [.int a0, .int a1] σ τ (some (.int r)) := by
  refine f_openI (by decide) (Nat.le_of_ble_eq_true rfl) ?_
  intro p e s m below meth c args Q F hR hP ls hl
  have hx := F.1.1
  have hb := F.1.2.1
  have hown := F.1.2.2.2.1
  have hts := F.1.2.2.2.2
  have hS : va_S (f_A E) s.heap s.heap [] := va_S.rf
  skip
  have hl : lv_has ls 5 [(0, .int a0), (1, .int a1)] := hl
  unfold g_X8_common at hG
  refine lv_iload_n hx hb dX8_common_0 rfl (lv_at hl 0 rfl) ?_
  refine lv_istore_n (lv' := [(2, .int a0), (0, .int a0), (1, .int a1)]) hx hb dX8_common_1 rfl hl (by decide) rfl (fun ls hl => ?_)
  refine lv_iload_n hx hb dX8_common_2 rfl (lv_at hl 2 rfl) ?_
  obtain ⟨o3, σj3, hT3, hG⟩ := f_bd hG
  have T3 : ∀ (H : Heap) (locs : List Loc) (ls : Array Slot), f_h E σj3 H → va_S (f_A E) s.heap H locs → lv_has ls 5 [(2, .int a0)] → W p l e rm_X8_common s m args below meth c H locs 0 0 Q (F0 m 12 ls [.int o3]) := by
    intro H locs ls hP hS hl
    refine lv_istore_n (lv' := [(3, .int o3), (2, .int a0)]) hx hb dX8_common_12 rfl hl (by decide) rfl (fun ls hl => ?_)
    obtain ⟨o13, σl13, hT13, hG⟩ := f_bd hG
    have T13 : ∀ (H : Heap) (locs : List Loc) (ls : Array Slot), f_h E σl13 H → va_S (f_A E) s.heap H locs → lv_has ls 5 [(2, .int o13)] → W p l e rm_X8_common s m args below meth c H locs 0 0 Q (F0 m 30 ls []) := by
      intro H locs ls hP hS hl
      refine lv_iload_n hx hb dX8_common_30 rfl (lv_at hl 0 rfl) ?_
      exact x_ri hR hS hP hG dX8_common_31
    have L13 : ∀ (n13 : Nat) (x13_2 : Int32) (x13_3 : Int32) (σh13 : fS) (H : Heap) (locs : List Loc) (ls : Array Slot), f_h E σh13 H → va_S (f_A E) s.heap H locs → lv_has ls 5 [(2, .int x13_2), (3, .int x13_3)] → lp_X8_common_13 N n13 x13_2 x13_3 σh13 = some (o13, σl13) → W p l e rm_X8_common s m args below meth c H locs 0 0 Q (F0 m 13 ls []) := by
      intro n13
      induction n13 with
      | zero =>
        intro x13_2 x13_3 σh13 H locs ls hP hS hl hG
        rw [lp_X8_common_13] at hG
        cases hG
      | succ n13 ih13 =>
        intro x13_2 x13_3 σh13 H locs ls hP hS hl hG
        rw [lp_X8_common_13] at hG
        refine lv_iload_n hx hb dX8_common_13 rfl (lv_at hl 1 rfl) ?_
        refine lv_if_eq (tgt := 30) hx hb dX8_common_14 (by decide) (fun c14 => ?_) (fun c14 => ?_)
        · have hG := f_ip c14 hG
          cases hG
          exact T13 _ _ _ hP hS (lv_sub hl [0] rfl)
        · have hG := f_in c14 hG
          refine lv_iload_n hx hb dX8_common_17 rfl (lv_at hl 0 rfl) ?_
          refine lv_iload_n hx hb dX8_common_18 rfl (lv_at hl 1 rfl) ?_
          obtain ⟨h19, hG⟩ := f_gd hG
          refine x_irem F dX8_common_19 (f_nz h19) ?_
          refine lv_topi (fun v20 e20 => ?_)
          have hG := f_lt hG e20
          refine lv_istore (lv' := [(4, .int v20), (2, .int x13_2), (3, .int x13_3)]) hx hb dX8_common_20 hl (by decide) rfl (fun ls hl => ?_)
          refine lv_iload_n hx hb dX8_common_22 rfl (lv_at hl 2 rfl) ?_
          refine lv_istore_n (lv' := [(2, .int x13_3), (4, .int v20), (3, .int x13_3)]) hx hb dX8_common_23 rfl hl (by decide) rfl (fun ls hl => ?_)
          refine lv_iload hx hb dX8_common_24 (lv_at hl 1 rfl) ?_
          refine lv_istore_n (lv' := [(3, .int v20), (2, .int x13_3), (4, .int v20)]) hx hb dX8_common_26 rfl hl (by decide) rfl (fun ls hl => ?_)
          refine lv_goto (tgt := 13) hx hb dX8_common_27 (by decide) ?_
          exact ih13 x13_3 v20 σh13 _ _ _ hP hS (lv_sub hl [1, 0] rfl) hG
    exact L13 N a0 o3 σj3 _ _ _ hP hS (lv_sub hl [1, 0] rfl) hT13
  have hG := hT3
  clear hT3
  refine lv_if_ge (tgt := 11) hx hb dX8_common_3 (by decide) (fun c3 => ?_) (fun c3 => ?_)
  · have hG := f_ip c3 hG
    refine lv_iload_n hx hb dX8_common_11 rfl (lv_at hl 2 rfl) ?_
    cases hG
    exact T3 _ _ _ hP hS (lv_sub hl [0] rfl)
  · have hG := f_in c3 hG
    refine lv_iload_n hx hb dX8_common_6 rfl (lv_at hl 2 rfl) ?_
    refine lv_ineg hx hb dX8_common_7 ?_
    refine lv_goto (tgt := 12) hx hb dX8_common_8 (by decide) ?_
    cases hG
    exact T3 _ _ _ hP hS (lv_sub hl [0] rfl)
theorem dX8_addPair_0 : decode cX8_addPair 0 = .ok (.aload_n 0, 1) := by decide +kernel
theorem dX8_addPair_1 : decode cX8_addPair 1 = .ok (.getfield 260, 3) := by decide +kernel
theorem dX8_addPair_4 : decode cX8_addPair 4 = .ok (.iload_n 2, 1) := by decide +kernel
theorem dX8_addPair_5 : decode cX8_addPair 5 = .ok (.iload_n 2, 1) := by decide +kernel
theorem dX8_addPair_6 : decode cX8_addPair 6 = .ok (.imul, 1) := by decide +kernel
theorem dX8_addPair_7 : decode cX8_addPair 7 = .ok (.iadd, 1) := by decide +kernel
theorem dX8_addPair_8 : decode cX8_addPair 8 = .ok (.istore_n 3, 1) := by decide +kernel
theorem dX8_addPair_9 : decode cX8_addPair 9 = .ok (.iload_n 3, 1) := by decide +kernel
theorem dX8_addPair_10 : decode cX8_addPair 10 = .ok (.iconst 4, 1) := by decide +kernel
theorem dX8_addPair_11 : decode cX8_addPair 11 = .ok (.iload_n 1, 1) := by decide +kernel
theorem dX8_addPair_12 : decode cX8_addPair 12 = .ok (.imul, 1) := by decide +kernel
theorem dX8_addPair_13 : decode cX8_addPair 13 = .ok (.idiv, 1) := by decide +kernel
theorem dX8_addPair_14 : decode cX8_addPair 14 = .ok (.istore 4, 2) := by decide +kernel
theorem dX8_addPair_16 : decode cX8_addPair 16 = .ok (.iload_n 3, 1) := by decide +kernel
theorem dX8_addPair_17 : decode cX8_addPair 17 = .ok (.iconst 4, 1) := by decide +kernel
theorem dX8_addPair_18 : decode cX8_addPair 18 = .ok (.iload_n 1, 1) := by decide +kernel
theorem dX8_addPair_19 : decode cX8_addPair 19 = .ok (.imul, 1) := by decide +kernel
theorem dX8_addPair_20 : decode cX8_addPair 20 = .ok (.irem, 1) := by decide +kernel
theorem dX8_addPair_21 : decode cX8_addPair 21 = .ok (.ifCond .ne 23, 3) := by decide +kernel
theorem dX8_addPair_24 : decode cX8_addPair 24 = .ok (.iload 4, 2) := by decide +kernel
theorem dX8_addPair_26 : decode cX8_addPair 26 = .ok (.iload_n 1, 1) := by decide +kernel
theorem dX8_addPair_27 : decode cX8_addPair 27 = .ok (.if_icmp .lt 17, 3) := by decide +kernel
theorem dX8_addPair_30 : decode cX8_addPair 30 = .ok (.iload 4, 2) := by decide +kernel
theorem dX8_addPair_32 : decode cX8_addPair 32 = .ok (.iload_n 1, 1) := by decide +kernel
theorem dX8_addPair_33 : decode cX8_addPair 33 = .ok (.if_icmp .gt 7, 3) := by decide +kernel
theorem dX8_addPair_36 : decode cX8_addPair 36 = .ok (.iload_n 2, 1) := by decide +kernel
theorem dX8_addPair_37 : decode cX8_addPair 37 = .ok (.ifCond .lt 7, 3) := by decide +kernel
theorem dX8_addPair_40 : decode cX8_addPair 40 = .ok (.iconst 1, 1) := by decide +kernel
theorem dX8_addPair_41 : decode cX8_addPair 41 = .ok (.goto 4, 3) := by decide +kernel
theorem dX8_addPair_44 : decode cX8_addPair 44 = .ok (.iconst 0, 1) := by decide +kernel
theorem dX8_addPair_45 : decode cX8_addPair 45 = .ok (.istore 5, 2) := by decide +kernel
theorem dX8_addPair_47 : decode cX8_addPair 47 = .ok (.iload 5, 2) := by decide +kernel
theorem dX8_addPair_49 : decode cX8_addPair 49 = .ok (.ifCond .eq 58, 3) := by decide +kernel
theorem dX8_addPair_52 : decode cX8_addPair 52 = .ok (.iload_n 1, 1) := by decide +kernel
theorem dX8_addPair_53 : decode cX8_addPair 53 = .ok (.iload_n 2, 1) := by decide +kernel
theorem dX8_addPair_54 : decode cX8_addPair 54 = .ok (.invokestatic 263, 3) := by decide +kernel
theorem dX8_addPair_57 : decode cX8_addPair 57 = .ok (.iload 4, 2) := by decide +kernel
theorem dX8_addPair_59 : decode cX8_addPair 59 = .ok (.invokestatic 263, 3) := by decide +kernel
theorem dX8_addPair_62 : decode cX8_addPair 62 = .ok (.iconst 1, 1) := by decide +kernel
theorem dX8_addPair_63 : decode cX8_addPair 63 = .ok (.if_icmp .ne 44, 3) := by decide +kernel
theorem dX8_addPair_66 : decode cX8_addPair 66 = .ok (.aload_n 0, 1) := by decide +kernel
theorem dX8_addPair_67 : decode cX8_addPair 67 = .ok (.getfield 39, 3) := by decide +kernel
theorem dX8_addPair_70 : decode cX8_addPair 70 = .ok (.aload_n 0, 1) := by decide +kernel
theorem dX8_addPair_71 : decode cX8_addPair 71 = .ok (.getfield 266, 3) := by decide +kernel
theorem dX8_addPair_74 : decode cX8_addPair 74 = .ok (.iload_n 1, 1) := by decide +kernel
theorem dX8_addPair_75 : decode cX8_addPair 75 = .ok (.iastore, 1) := by decide +kernel
theorem dX8_addPair_76 : decode cX8_addPair 76 = .ok (.aload_n 0, 1) := by decide +kernel
theorem dX8_addPair_77 : decode cX8_addPair 77 = .ok (.getfield 42, 3) := by decide +kernel
theorem dX8_addPair_80 : decode cX8_addPair 80 = .ok (.aload_n 0, 1) := by decide +kernel
theorem dX8_addPair_81 : decode cX8_addPair 81 = .ok (.getfield 266, 3) := by decide +kernel
theorem dX8_addPair_84 : decode cX8_addPair 84 = .ok (.iload_n 2, 1) := by decide +kernel
theorem dX8_addPair_85 : decode cX8_addPair 85 = .ok (.iastore, 1) := by decide +kernel
theorem dX8_addPair_86 : decode cX8_addPair 86 = .ok (.aload_n 0, 1) := by decide +kernel
theorem dX8_addPair_87 : decode cX8_addPair 87 = .ok (.getfield 45, 3) := by decide +kernel
theorem dX8_addPair_90 : decode cX8_addPair 90 = .ok (.aload_n 0, 1) := by decide +kernel
theorem dX8_addPair_91 : decode cX8_addPair 91 = .ok (.getfield 266, 3) := by decide +kernel
theorem dX8_addPair_94 : decode cX8_addPair 94 = .ok (.iload 4, 2) := by decide +kernel
theorem dX8_addPair_96 : decode cX8_addPair 96 = .ok (.iastore, 1) := by decide +kernel
theorem dX8_addPair_97 : decode cX8_addPair 97 = .ok (.aload_n 0, 1) := by decide +kernel
theorem dX8_addPair_98 : decode cX8_addPair 98 = .ok (.dup, 1) := by decide +kernel
theorem dX8_addPair_99 : decode cX8_addPair 99 = .ok (.getfield 266, 3) := by decide +kernel
theorem dX8_addPair_102 : decode cX8_addPair 102 = .ok (.iconst 1, 1) := by decide +kernel
theorem dX8_addPair_103 : decode cX8_addPair 103 = .ok (.iadd, 1) := by decide +kernel
theorem dX8_addPair_104 : decode cX8_addPair 104 = .ok (.putfield 266, 3) := by decide +kernel
theorem dX8_addPair_107 : decode cX8_addPair 107 = .ok (.return_, 1) := by decide +kernel
set_option maxHeartbeats 4000000 in
set_option maxRecDepth 100000 in
theorem c_X8_addPair (l : Launch) (E : fEv) (N : Nat) (a1 : Int32) (a2 : Int32) (σ : fS) (τ : fS) (hG : g_X8_addPair N a1 a2 σ = some τ) : fM l E yX8_addPair (.code yX8_addPair cX8_addPair 6 none) rm_X8_addPair [.ref (E.2.1 61), .int a1, .int a2] σ τ none := by
  refine f_openV (by decide) (Nat.le_of_ble_eq_true rfl) ?_
  intro p e s m below meth c args Q F hR hP ls hl
  have hx := F.1.1
  have hb := F.1.2.1
  have hown := F.1.2.2.2.1
  have hts := F.1.2.2.2.2
  have hS : va_S (f_A E) s.heap s.heap [] := va_S.rf
  skip
  have hl : lv_has ls 6 [(0, .ref (E.2.1 61)), (1, .int a1), (2, .int a2)] := hl
  unfold g_X8_addPair at hG
  refine lv_aload_n hx hb dX8_addPair_0 rfl (lv_at hl 0 rfl) ?_
  refine gf_X8_260 F hP dX8_addPair_1 ?_
  refine lv_iload_n hx hb dX8_addPair_4 rfl (lv_at hl 2 rfl) ?_
  refine lv_iload_n hx hb dX8_addPair_5 rfl (lv_at hl 2 rfl) ?_
  refine lv_imul hx hb dX8_addPair_6 ?_
  refine lv_iadd hx hb dX8_addPair_7 ?_
  refine lv_topi (fun v8 e8 => ?_)
  have hG := f_lt hG e8
  refine lv_istore_n (lv' := [(3, .int v8), (0, .ref (E.2.1 61)), (1, .int a1), (2, .int a2)]) hx hb dX8_addPair_8 rfl hl (by decide) rfl (fun ls hl => ?_)
  refine lv_iload_n hx hb dX8_addPair_9 rfl (lv_at hl 0 rfl) ?_
  refine lv_iconst (v := 4) hx hb dX8_addPair_10 (by decide) ?_
  refine lv_iload_n hx hb dX8_addPair_11 rfl (lv_at hl 2 rfl) ?_
  refine lv_imul hx hb dX8_addPair_12 ?_
  obtain ⟨h13, hG⟩ := f_gd hG
  refine lv_idiv hx hb dX8_addPair_13 (f_nz h13) ?_
  refine lv_topi (fun v14 e14 => ?_)
  have hG := f_lt hG e14
  refine lv_istore (lv' := [(4, .int v14), (3, .int v8), (0, .ref (E.2.1 61)), (1, .int a1), (2, .int a2)]) hx hb dX8_addPair_14 hl (by decide) rfl (fun ls hl => ?_)
  refine lv_iload_n hx hb dX8_addPair_16 rfl (lv_at hl 1 rfl) ?_
  refine lv_iconst (v := 4) hx hb dX8_addPair_17 (by decide) ?_
  refine lv_iload_n hx hb dX8_addPair_18 rfl (lv_at hl 3 rfl) ?_
  refine lv_imul hx hb dX8_addPair_19 ?_
  obtain ⟨h20, hG⟩ := f_gd hG
  refine x_irem F dX8_addPair_20 (f_nz h20) ?_
  obtain ⟨o21, σj21, hT21, hG⟩ := f_bd hG
  have T21 : ∀ (H : Heap) (locs : List Loc) (ls : Array Slot), f_h E σj21 H → va_S (f_A E) s.heap H locs → lv_has ls 6 [(0, .ref (E.2.1 61)), (1, .int a1), (2, .int a2), (4, .int v14)] → W p l e rm_X8_addPair s m args below meth c H locs 0 0 Q (F0 m 45 ls [.int o21]) := by
    intro H locs ls hP hS hl
    refine lv_istore (lv' := [(5, .int o21), (0, .ref (E.2.1 61)), (1, .int a1), (2, .int a2), (4, .int v14)]) hx hb dX8_addPair_45 hl (by decide) rfl (fun ls hl => ?_)
    refine lv_iload hx hb dX8_addPair_47 (lv_at hl 0 rfl) ?_
    refine lv_if_eq (tgt := 107) hx hb dX8_addPair_49 (by decide) (fun c49 => ?_) (fun c49 => ?_)
    · have hG := f_ip c49 hG
      exact x_rv hR hS hP hG dX8_addPair_107
    · have hG := f_in c49 hG
      refine lv_iload_n hx hb dX8_addPair_52 rfl (lv_at hl 2 rfl) ?_
      refine lv_iload_n hx hb dX8_addPair_53 rfl (lv_at hl 3 rfl) ?_
      obtain ⟨r54, σ54, hC54, hG⟩ := f_bd hG
      refine iv_X8_263 F hS hP (c_X8_common l E N a1 a2 σj21 _ _ hC54) ⟨Nat.le_of_ble_eq_true rfl, Nat.le_of_ble_eq_true rfl⟩ hl.1 (Nat.le_of_ble_eq_true rfl) dX8_addPair_54 ⟨Nat.zero_le _, Nat.zero_le _⟩ (fun H locs hP hS => ?_)
      refine lv_iload hx hb dX8_addPair_57 (lv_at hl 4 rfl) ?_
      obtain ⟨r59, σ59, hC59, hG⟩ := f_bd hG
      refine iv_X8_263 F hS hP (c_X8_common l E N r54 v14 σ54 _ _ hC59) ⟨Nat.le_of_ble_eq_true rfl, Nat.le_of_ble_eq_true rfl⟩ hl.1 (Nat.le_of_ble_eq_true rfl) dX8_addPair_59 ⟨Nat.zero_le _, Nat.zero_le _⟩ (fun H locs hP hS => ?_)
      refine lv_iconst (v := 1) hx hb dX8_addPair_62 (by decide) ?_
      refine lv_icmp_ne (tgt := 107) hx hb dX8_addPair_63 (by decide) (fun c63 => ?_) (fun c63 => ?_)
      · have hG := f_in c63 hG
        exact x_rv hR hS hP hG dX8_addPair_107
      · have hG := f_ip c63 hG
        refine lv_aload_n hx hb dX8_addPair_66 rfl (lv_at hl 1 rfl) ?_
        refine gf_X8_39 F hP dX8_addPair_67 ?_
        refine lv_aload_n hx hb dX8_addPair_70 rfl (lv_at hl 1 rfl) ?_
        refine gf_X8_266 F hP dX8_addPair_71 ?_
        refine lv_iload_n hx hb dX8_addPair_74 rfl (lv_at hl 2 rfl) ?_
        obtain ⟨h75, hG⟩ := f_gd hG
        have i75 := f_fin h75
        refine x_iast F hS hP rfl rfl i75 dX8_addPair_75 (fun H locs hP hS => ?_)
        obtain ⟨σ75, e75⟩ : ∃ t : fS, t = sI σ59 71 ((σ59.1 61 14)).toNatClampNeg a1 := ⟨_, rfl⟩
        rw [← e75] at hP
        have hG := f_lt hG e75
        refine lv_aload_n hx hb dX8_addPair_76 rfl (lv_at hl 1 rfl) ?_
        refine gf_X8_42 F hP dX8_addPair_77 ?_
        refine lv_aload_n hx hb dX8_addPair_80 rfl (lv_at hl 1 rfl) ?_
        refine gf_X8_266 F hP dX8_addPair_81 ?_
        refine lv_iload_n hx hb dX8_addPair_84 rfl (lv_at hl 3 rfl) ?_
        obtain ⟨h85, hG⟩ := f_gd hG
        have i85 := f_fin h85
        refine x_iast F hS hP rfl rfl i85 dX8_addPair_85 (fun H locs hP hS => ?_)
        obtain ⟨σ85, e85⟩ : ∃ t : fS, t = sI σ75 72 ((σ75.1 61 14)).toNatClampNeg a2 := ⟨_, rfl⟩
        rw [← e85] at hP
        have hG := f_lt hG e85
        refine lv_aload_n hx hb dX8_addPair_86 rfl (lv_at hl 1 rfl) ?_
        refine gf_X8_45 F hP dX8_addPair_87 ?_
        refine lv_aload_n hx hb dX8_addPair_90 rfl (lv_at hl 1 rfl) ?_
        refine gf_X8_266 F hP dX8_addPair_91 ?_
        refine lv_iload hx hb dX8_addPair_94 (lv_at hl 4 rfl) ?_
        obtain ⟨h96, hG⟩ := f_gd hG
        have i96 := f_fin h96
        refine x_iast F hS hP rfl rfl i96 dX8_addPair_96 (fun H locs hP hS => ?_)
        obtain ⟨σ96, e96⟩ : ∃ t : fS, t = sI σ85 73 ((σ85.1 61 14)).toNatClampNeg v14 := ⟨_, rfl⟩
        rw [← e96] at hP
        have hG := f_lt hG e96
        refine lv_aload_n hx hb dX8_addPair_97 rfl (lv_at hl 1 rfl) ?_
        refine lv_dup hx hb dX8_addPair_98 rfl ?_
        refine gf_X8_266 F hP dX8_addPair_99 ?_
        refine lv_iconst (v := 1) hx hb dX8_addPair_102 (by decide) ?_
        refine lv_iadd hx hb dX8_addPair_103 ?_
        refine pf_X8_266 F hS hP dX8_addPair_104 (fun H locs hP hS => ?_)
        obtain ⟨σ104, e104⟩ : ∃ t : fS, t = sI σ96 61 14 ((σ96.1 61 14) + (1 : Int32)) := ⟨_, rfl⟩
        rw [← e104] at hP
        have hG := f_lt hG e104
        exact x_rv hR hS hP hG dX8_addPair_107
  have hG := hT21
  clear hT21
  refine lv_if_ne (tgt := 44) hx hb dX8_addPair_21 (by decide) (fun c21 => ?_) (fun c21 => ?_)
  · have hG := f_in c21 hG
    refine lv_iconst (v := 0) hx hb dX8_addPair_44 (by decide) ?_
    cases hG
    exact T21 _ _ _ hP hS (lv_sub hl [2, 3, 4, 0] rfl)
  · have hG := f_ip c21 hG
    refine lv_iload hx hb dX8_addPair_24 (lv_at hl 0 rfl) ?_
    refine lv_iload_n hx hb dX8_addPair_26 rfl (lv_at hl 3 rfl) ?_
    refine lv_icmp_lt (tgt := 44) hx hb dX8_addPair_27 (by decide) (fun c27 => ?_) (fun c27 => ?_)
    · have hG := f_ip c27 hG
      refine lv_iconst (v := 0) hx hb dX8_addPair_44 (by decide) ?_
      cases hG
      exact T21 _ _ _ hP hS (lv_sub hl [2, 3, 4, 0] rfl)
    · have hG := f_in c27 hG
      refine lv_iload hx hb dX8_addPair_30 (lv_at hl 0 rfl) ?_
      refine lv_iload_n hx hb dX8_addPair_32 rfl (lv_at hl 3 rfl) ?_
      refine lv_icmp_gt (tgt := 40) hx hb dX8_addPair_33 (by decide) (fun c33 => ?_) (fun c33 => ?_)
      · have hG := f_ip c33 hG
        refine lv_iconst (v := 1) hx hb dX8_addPair_40 (by decide) ?_
        refine lv_goto (tgt := 45) hx hb dX8_addPair_41 (by decide) ?_
        cases hG
        exact T21 _ _ _ hP hS (lv_sub hl [2, 3, 4, 0] rfl)
      · have hG := f_in c33 hG
        refine lv_iload_n hx hb dX8_addPair_36 rfl (lv_at hl 4 rfl) ?_
        refine lv_if_lt (tgt := 44) hx hb dX8_addPair_37 (by decide) (fun c37 => ?_) (fun c37 => ?_)
        · have hG := f_ip c37 hG
          refine lv_iconst (v := 0) hx hb dX8_addPair_44 (by decide) ?_
          cases hG
          exact T21 _ _ _ hP hS (lv_sub hl [2, 3, 4, 0] rfl)
        · have hG := f_in c37 hG
          refine lv_iconst (v := 1) hx hb dX8_addPair_40 (by decide) ?_
          refine lv_goto (tgt := 45) hx hb dX8_addPair_41 (by decide) ?_
          cases hG
          exact T21 _ _ _ hP hS (lv_sub hl [2, 3, 4, 0] rfl)
theorem dX8_layMet_0 : decode cX8_layMet 0 = .ok (.iconst 0, 1) := by decide +kernel
theorem dX8_layMet_1 : decode cX8_layMet 1 = .ok (.istore_n 2, 1) := by decide +kernel
theorem dX8_layMet_2 : decode cX8_layMet 2 = .ok (.iload_n 2, 1) := by decide +kernel
theorem dX8_layMet_3 : decode cX8_layMet 3 = .ok (.aload_n 0, 1) := by decide +kernel
theorem dX8_layMet_4 : decode cX8_layMet 4 = .ok (.getfield 260, 3) := by decide +kernel
theorem dX8_layMet_7 : decode cX8_layMet 7 = .ok (.if_icmp .ge 22, 3) := by decide +kernel
theorem dX8_layMet_10 : decode cX8_layMet 10 = .ok (.aload_n 0, 1) := by decide +kernel
theorem dX8_layMet_11 : decode cX8_layMet 11 = .ok (.getfield 54, 3) := by decide +kernel
theorem dX8_layMet_14 : decode cX8_layMet 14 = .ok (.sipush 160, 3) := by decide +kernel
theorem dX8_layMet_17 : decode cX8_layMet 17 = .ok (.iload_n 1, 1) := by decide +kernel
theorem dX8_layMet_18 : decode cX8_layMet 18 = .ok (.imul, 1) := by decide +kernel
theorem dX8_layMet_19 : decode cX8_layMet 19 = .ok (.iload_n 2, 1) := by decide +kernel
theorem dX8_layMet_20 : decode cX8_layMet 20 = .ok (.iadd, 1) := by decide +kernel
theorem dX8_layMet_21 : decode cX8_layMet 21 = .ok (.iconst 0, 1) := by decide +kernel
theorem dX8_layMet_22 : decode cX8_layMet 22 = .ok (.bastore, 1) := by decide +kernel
theorem dX8_layMet_23 : decode cX8_layMet 23 = .ok (.iinc 2 1, 3) := by decide +kernel
theorem dX8_layMet_26 : decode cX8_layMet 26 = .ok (.goto (-24), 3) := by decide +kernel
theorem dX8_layMet_29 : decode cX8_layMet 29 = .ok (.iconst 0, 1) := by decide +kernel
theorem dX8_layMet_30 : decode cX8_layMet 30 = .ok (.istore_n 2, 1) := by decide +kernel
theorem dX8_layMet_31 : decode cX8_layMet 31 = .ok (.iload_n 2, 1) := by decide +kernel
theorem dX8_layMet_32 : decode cX8_layMet 32 = .ok (.aload_n 0, 1) := by decide +kernel
theorem dX8_layMet_33 : decode cX8_layMet 33 = .ok (.getfield 260, 3) := by decide +kernel
theorem dX8_layMet_36 : decode cX8_layMet 36 = .ok (.if_icmp .ge 82, 3) := by decide +kernel
theorem dX8_layMet_39 : decode cX8_layMet 39 = .ok (.iconst 0, 1) := by decide +kernel
theorem dX8_layMet_40 : decode cX8_layMet 40 = .ok (.istore_n 3, 1) := by decide +kernel
theorem dX8_layMet_41 : decode cX8_layMet 41 = .ok (.iload_n 3, 1) := by decide +kernel
theorem dX8_layMet_42 : decode cX8_layMet 42 = .ok (.aload_n 0, 1) := by decide +kernel
theorem dX8_layMet_43 : decode cX8_layMet 43 = .ok (.getfield 260, 3) := by decide +kernel
theorem dX8_layMet_46 : decode cX8_layMet 46 = .ok (.if_icmp .ge 66, 3) := by decide +kernel
theorem dX8_layMet_49 : decode cX8_layMet 49 = .ok (.aload_n 0, 1) := by decide +kernel
theorem dX8_layMet_50 : decode cX8_layMet 50 = .ok (.getfield 39, 3) := by decide +kernel
theorem dX8_layMet_53 : decode cX8_layMet 53 = .ok (.iload_n 1, 1) := by decide +kernel
theorem dX8_layMet_54 : decode cX8_layMet 54 = .ok (.iaload, 1) := by decide +kernel
theorem dX8_layMet_55 : decode cX8_layMet 55 = .ok (.iload_n 2, 1) := by decide +kernel
theorem dX8_layMet_56 : decode cX8_layMet 56 = .ok (.imul, 1) := by decide +kernel
theorem dX8_layMet_57 : decode cX8_layMet 57 = .ok (.iload_n 2, 1) := by decide +kernel
theorem dX8_layMet_58 : decode cX8_layMet 58 = .ok (.imul, 1) := by decide +kernel
theorem dX8_layMet_59 : decode cX8_layMet 59 = .ok (.aload_n 0, 1) := by decide +kernel
theorem dX8_layMet_60 : decode cX8_layMet 60 = .ok (.getfield 42, 3) := by decide +kernel
theorem dX8_layMet_63 : decode cX8_layMet 63 = .ok (.iload_n 1, 1) := by decide +kernel
theorem dX8_layMet_64 : decode cX8_layMet 64 = .ok (.iaload, 1) := by decide +kernel
theorem dX8_layMet_65 : decode cX8_layMet 65 = .ok (.iload_n 2, 1) := by decide +kernel
theorem dX8_layMet_66 : decode cX8_layMet 66 = .ok (.imul, 1) := by decide +kernel
theorem dX8_layMet_67 : decode cX8_layMet 67 = .ok (.iload_n 3, 1) := by decide +kernel
theorem dX8_layMet_68 : decode cX8_layMet 68 = .ok (.imul, 1) := by decide +kernel
theorem dX8_layMet_69 : decode cX8_layMet 69 = .ok (.iadd, 1) := by decide +kernel
theorem dX8_layMet_70 : decode cX8_layMet 70 = .ok (.aload_n 0, 1) := by decide +kernel
theorem dX8_layMet_71 : decode cX8_layMet 71 = .ok (.getfield 45, 3) := by decide +kernel
theorem dX8_layMet_74 : decode cX8_layMet 74 = .ok (.iload_n 1, 1) := by decide +kernel
theorem dX8_layMet_75 : decode cX8_layMet 75 = .ok (.iaload, 1) := by decide +kernel
theorem dX8_layMet_76 : decode cX8_layMet 76 = .ok (.iload_n 3, 1) := by decide +kernel
theorem dX8_layMet_77 : decode cX8_layMet 77 = .ok (.imul, 1) := by decide +kernel
theorem dX8_layMet_78 : decode cX8_layMet 78 = .ok (.iload_n 3, 1) := by decide +kernel
theorem dX8_layMet_79 : decode cX8_layMet 79 = .ok (.imul, 1) := by decide +kernel
theorem dX8_layMet_80 : decode cX8_layMet 80 = .ok (.iadd, 1) := by decide +kernel
theorem dX8_layMet_81 : decode cX8_layMet 81 = .ok (.istore 4, 2) := by decide +kernel
theorem dX8_layMet_83 : decode cX8_layMet 83 = .ok (.iload 4, 2) := by decide +kernel
theorem dX8_layMet_85 : decode cX8_layMet 85 = .ok (.aload_n 0, 1) := by decide +kernel
theorem dX8_layMet_86 : decode cX8_layMet 86 = .ok (.getfield 260, 3) := by decide +kernel
theorem dX8_layMet_89 : decode cX8_layMet 89 = .ok (.irem, 1) := by decide +kernel
theorem dX8_layMet_90 : decode cX8_layMet 90 = .ok (.istore 5, 2) := by decide +kernel
theorem dX8_layMet_92 : decode cX8_layMet 92 = .ok (.aload_n 0, 1) := by decide +kernel
theorem dX8_layMet_93 : decode cX8_layMet 93 = .ok (.getfield 54, 3) := by decide +kernel
theorem dX8_layMet_96 : decode cX8_layMet 96 = .ok (.sipush 160, 3) := by decide +kernel
theorem dX8_layMet_99 : decode cX8_layMet 99 = .ok (.iload_n 1, 1) := by decide +kernel
theorem dX8_layMet_100 : decode cX8_layMet 100 = .ok (.imul, 1) := by decide +kernel
theorem dX8_layMet_101 : decode cX8_layMet 101 = .ok (.iload 5, 2) := by decide +kernel
theorem dX8_layMet_103 : decode cX8_layMet 103 = .ok (.iadd, 1) := by decide +kernel
theorem dX8_layMet_104 : decode cX8_layMet 104 = .ok (.iconst 1, 1) := by decide +kernel
theorem dX8_layMet_105 : decode cX8_layMet 105 = .ok (.bastore, 1) := by decide +kernel
theorem dX8_layMet_106 : decode cX8_layMet 106 = .ok (.iinc 3 1, 3) := by decide +kernel
theorem dX8_layMet_109 : decode cX8_layMet 109 = .ok (.goto (-68), 3) := by decide +kernel
theorem dX8_layMet_112 : decode cX8_layMet 112 = .ok (.iinc 2 1, 3) := by decide +kernel
theorem dX8_layMet_115 : decode cX8_layMet 115 = .ok (.goto (-84), 3) := by decide +kernel
theorem dX8_layMet_118 : decode cX8_layMet 118 = .ok (.aload_n 0, 1) := by decide +kernel
theorem dX8_layMet_119 : decode cX8_layMet 119 = .ok (.getfield 51, 3) := by decide +kernel
theorem dX8_layMet_122 : decode cX8_layMet 122 = .ok (.iload_n 1, 1) := by decide +kernel
theorem dX8_layMet_123 : decode cX8_layMet 123 = .ok (.iconst 0, 1) := by decide +kernel
theorem dX8_layMet_124 : decode cX8_layMet 124 = .ok (.iastore, 1) := by decide +kernel
theorem dX8_layMet_125 : decode cX8_layMet 125 = .ok (.iconst 0, 1) := by decide +kernel
theorem dX8_layMet_126 : decode cX8_layMet 126 = .ok (.istore_n 2, 1) := by decide +kernel
theorem dX8_layMet_127 : decode cX8_layMet 127 = .ok (.iload_n 2, 1) := by decide +kernel
theorem dX8_layMet_128 : decode cX8_layMet 128 = .ok (.aload_n 0, 1) := by decide +kernel
theorem dX8_layMet_129 : decode cX8_layMet 129 = .ok (.getfield 260, 3) := by decide +kernel
theorem dX8_layMet_132 : decode cX8_layMet 132 = .ok (.if_icmp .ge 82, 3) := by decide +kernel
theorem dX8_layMet_135 : decode cX8_layMet 135 = .ok (.aload_n 0, 1) := by decide +kernel
theorem dX8_layMet_136 : decode cX8_layMet 136 = .ok (.getfield 54, 3) := by decide +kernel
theorem dX8_layMet_139 : decode cX8_layMet 139 = .ok (.sipush 160, 3) := by decide +kernel
theorem dX8_layMet_142 : decode cX8_layMet 142 = .ok (.iload_n 1, 1) := by decide +kernel
theorem dX8_layMet_143 : decode cX8_layMet 143 = .ok (.imul, 1) := by decide +kernel
theorem dX8_layMet_144 : decode cX8_layMet 144 = .ok (.iload_n 2, 1) := by decide +kernel
theorem dX8_layMet_145 : decode cX8_layMet 145 = .ok (.iadd, 1) := by decide +kernel
theorem dX8_layMet_146 : decode cX8_layMet 146 = .ok (.aload_n 0, 1) := by decide +kernel
theorem dX8_layMet_147 : decode cX8_layMet 147 = .ok (.getfield 54, 3) := by decide +kernel
theorem dX8_layMet_150 : decode cX8_layMet 150 = .ok (.sipush 160, 3) := by decide +kernel
theorem dX8_layMet_153 : decode cX8_layMet 153 = .ok (.iload_n 1, 1) := by decide +kernel
theorem dX8_layMet_154 : decode cX8_layMet 154 = .ok (.imul, 1) := by decide +kernel
theorem dX8_layMet_155 : decode cX8_layMet 155 = .ok (.iload_n 2, 1) := by decide +kernel
theorem dX8_layMet_156 : decode cX8_layMet 156 = .ok (.iadd, 1) := by decide +kernel
theorem dX8_layMet_157 : decode cX8_layMet 157 = .ok (.baload, 1) := by decide +kernel
theorem dX8_layMet_158 : decode cX8_layMet 158 = .ok (.ifCond .eq 19, 3) := by decide +kernel
theorem dX8_layMet_161 : decode cX8_layMet 161 = .ok (.aload_n 0, 1) := by decide +kernel
theorem dX8_layMet_162 : decode cX8_layMet 162 = .ok (.getfield 260, 3) := by decide +kernel
theorem dX8_layMet_165 : decode cX8_layMet 165 = .ok (.iload_n 2, 1) := by decide +kernel
theorem dX8_layMet_166 : decode cX8_layMet 166 = .ok (.invokestatic 263, 3) := by decide +kernel
theorem dX8_layMet_169 : decode cX8_layMet 169 = .ok (.iconst 1, 1) := by decide +kernel
theorem dX8_layMet_170 : decode cX8_layMet 170 = .ok (.if_icmp .ne 7, 3) := by decide +kernel
theorem dX8_layMet_173 : decode cX8_layMet 173 = .ok (.iconst 1, 1) := by decide +kernel
theorem dX8_layMet_174 : decode cX8_layMet 174 = .ok (.goto 4, 3) := by decide +kernel
theorem dX8_layMet_177 : decode cX8_layMet 177 = .ok (.iconst 0, 1) := by decide +kernel
theorem dX8_layMet_178 : decode cX8_layMet 178 = .ok (.bastore, 1) := by decide +kernel
theorem dX8_layMet_179 : decode cX8_layMet 179 = .ok (.aload_n 0, 1) := by decide +kernel
theorem dX8_layMet_180 : decode cX8_layMet 180 = .ok (.getfield 51, 3) := by decide +kernel
theorem dX8_layMet_183 : decode cX8_layMet 183 = .ok (.iload_n 1, 1) := by decide +kernel
theorem dX8_layMet_184 : decode cX8_layMet 184 = .ok (.dup2, 1) := by decide +kernel
theorem dX8_layMet_185 : decode cX8_layMet 185 = .ok (.iaload, 1) := by decide +kernel
theorem dX8_layMet_186 : decode cX8_layMet 186 = .ok (.aload_n 0, 1) := by decide +kernel
theorem dX8_layMet_187 : decode cX8_layMet 187 = .ok (.getfield 54, 3) := by decide +kernel
theorem dX8_layMet_190 : decode cX8_layMet 190 = .ok (.sipush 160, 3) := by decide +kernel
theorem dX8_layMet_193 : decode cX8_layMet 193 = .ok (.iload_n 1, 1) := by decide +kernel
theorem dX8_layMet_194 : decode cX8_layMet 194 = .ok (.imul, 1) := by decide +kernel
theorem dX8_layMet_195 : decode cX8_layMet 195 = .ok (.iload_n 2, 1) := by decide +kernel
theorem dX8_layMet_196 : decode cX8_layMet 196 = .ok (.iadd, 1) := by decide +kernel
theorem dX8_layMet_197 : decode cX8_layMet 197 = .ok (.baload, 1) := by decide +kernel
theorem dX8_layMet_198 : decode cX8_layMet 198 = .ok (.ifCond .eq 7, 3) := by decide +kernel
theorem dX8_layMet_201 : decode cX8_layMet 201 = .ok (.iconst 1, 1) := by decide +kernel
theorem dX8_layMet_202 : decode cX8_layMet 202 = .ok (.goto 4, 3) := by decide +kernel
theorem dX8_layMet_205 : decode cX8_layMet 205 = .ok (.iconst 0, 1) := by decide +kernel
theorem dX8_layMet_206 : decode cX8_layMet 206 = .ok (.iadd, 1) := by decide +kernel
theorem dX8_layMet_207 : decode cX8_layMet 207 = .ok (.iastore, 1) := by decide +kernel
theorem dX8_layMet_208 : decode cX8_layMet 208 = .ok (.iinc 2 1, 3) := by decide +kernel
theorem dX8_layMet_211 : decode cX8_layMet 211 = .ok (.goto (-84), 3) := by decide +kernel
theorem dX8_layMet_214 : decode cX8_layMet 214 = .ok (.return_, 1) := by decide +kernel
set_option maxHeartbeats 4000000 in
set_option maxRecDepth 100000 in
theorem c_X8_layMet (l : Launch) (E : fEv) (N : Nat) (a1 : Int32) (σ : fS) (τ : fS) (hG : g_X8_layMet N a1 σ = some τ) : fM l E yX8_layMet (.code yX8_layMet cX8_layMet 6 none) rm_X8_layMet [.ref (E.2.1 61), .int a1] σ τ none := by
  refine f_openV (by decide) (Nat.le_of_ble_eq_true rfl) ?_
  intro p e s m below meth c args Q F hR hP ls hl
  have hx := F.1.1
  have hb := F.1.2.1
  have hown := F.1.2.2.2.1
  have hts := F.1.2.2.2.2
  have hS : va_S (f_A E) s.heap s.heap [] := va_S.rf
  skip
  have hl : lv_has ls 6 [(0, .ref (E.2.1 61)), (1, .int a1)] := hl
  unfold g_X8_layMet at hG
  refine lv_iconst (v := 0) hx hb dX8_layMet_0 (by decide) ?_
  refine lv_istore_n (lv' := [(2, .int (0 : Int32)), (0, .ref (E.2.1 61)), (1, .int a1)]) hx hb dX8_layMet_1 rfl hl (by decide) rfl (fun ls hl => ?_)
  obtain ⟨σl2, hT2, hG⟩ := f_bv hG
  have T2 : ∀ (H : Heap) (locs : List Loc) (ls : Array Slot), f_h E σl2 H → va_S (f_A E) s.heap H locs → lv_has ls 6 [(0, .ref (E.2.1 61)), (1, .int a1)] → W p l e rm_X8_layMet s m args below meth c H locs 0 0 Q (F0 m 29 ls []) := by
    intro H locs ls hP hS hl
    refine lv_iconst (v := 0) hx hb dX8_layMet_29 (by decide) ?_
    refine lv_istore_n (lv' := [(2, .int (0 : Int32)), (0, .ref (E.2.1 61)), (1, .int a1)]) hx hb dX8_layMet_30 rfl hl (by decide) rfl (fun ls hl => ?_)
    obtain ⟨σl31, hT31, hG⟩ := f_bv hG
    have T31 : ∀ (H : Heap) (locs : List Loc) (ls : Array Slot), f_h E σl31 H → va_S (f_A E) s.heap H locs → lv_has ls 6 [(0, .ref (E.2.1 61)), (1, .int a1)] → W p l e rm_X8_layMet s m args below meth c H locs 0 0 Q (F0 m 118 ls []) := by
      intro H locs ls hP hS hl
      refine lv_aload_n hx hb dX8_layMet_118 rfl (lv_at hl 0 rfl) ?_
      refine gf_X8_51 F hP dX8_layMet_119 ?_
      refine lv_iload_n hx hb dX8_layMet_122 rfl (lv_at hl 1 rfl) ?_
      refine lv_iconst (v := 0) hx hb dX8_layMet_123 (by decide) ?_
      obtain ⟨h124, hG⟩ := f_gd hG
      have i124 := f_fin h124
      refine x_iast F hS hP rfl rfl i124 dX8_layMet_124 (fun H locs hP hS => ?_)
      obtain ⟨σ124, e124⟩ : ∃ t : fS, t = sI σl31 75 (a1).toNatClampNeg (0 : Int32) := ⟨_, rfl⟩
      rw [← e124] at hP
      have hG := f_lt hG e124
      refine lv_iconst (v := 0) hx hb dX8_layMet_125 (by decide) ?_
      refine lv_istore_n (lv' := [(2, .int (0 : Int32)), (0, .ref (E.2.1 61)), (1, .int a1)]) hx hb dX8_layMet_126 rfl hl (by decide) rfl (fun ls hl => ?_)
      obtain ⟨σl127, hT127, hG⟩ := f_bv hG
      have T127 : ∀ (H : Heap) (locs : List Loc) (ls : Array Slot), f_h E σl127 H → va_S (f_A E) s.heap H locs → lv_has ls 6 [] → W p l e rm_X8_layMet s m args below meth c H locs 0 0 Q (F0 m 214 ls []) := by
        intro H locs ls hP hS hl
        exact x_rv hR hS hP hG dX8_layMet_214
      have L127 : ∀ (n127 : Nat) (x127_2 : Int32) (σh127 : fS) (H : Heap) (locs : List Loc) (ls : Array Slot), f_h E σh127 H → va_S (f_A E) s.heap H locs → lv_has ls 6 [(0, .ref (E.2.1 61)), (1, .int a1), (2, .int x127_2)] → lp_X8_layMet_127 N a1 n127 x127_2 σh127 = some σl127 → W p l e rm_X8_layMet s m args below meth c H locs 0 0 Q (F0 m 127 ls []) := by
        intro n127
        induction n127 with
        | zero =>
          intro x127_2 σh127 H locs ls hP hS hl hG
          rw [lp_X8_layMet_127] at hG
          cases hG
        | succ n127 ih127 =>
          intro x127_2 σh127 H locs ls hP hS hl hG
          rw [lp_X8_layMet_127] at hG
          refine lv_iload_n hx hb dX8_layMet_127 rfl (lv_at hl 2 rfl) ?_
          refine lv_aload_n hx hb dX8_layMet_128 rfl (lv_at hl 0 rfl) ?_
          refine gf_X8_260 F hP dX8_layMet_129 ?_
          refine lv_icmp_ge (tgt := 214) hx hb dX8_layMet_132 (by decide) (fun c132 => ?_) (fun c132 => ?_)
          · have hG := f_ip c132 hG
            cases hG
            exact T127 _ _ _ hP hS (lv_sub hl [] rfl)
          · have hG := f_in c132 hG
            refine lv_aload_n hx hb dX8_layMet_135 rfl (lv_at hl 0 rfl) ?_
            refine gf_X8_54 F hP dX8_layMet_136 ?_
            refine lv_sipush (v := 160) hx hb dX8_layMet_139 (by decide) ?_
            refine lv_iload_n hx hb dX8_layMet_142 rfl (lv_at hl 1 rfl) ?_
            refine lv_imul hx hb dX8_layMet_143 ?_
            refine lv_iload_n hx hb dX8_layMet_144 rfl (lv_at hl 2 rfl) ?_
            refine lv_iadd hx hb dX8_layMet_145 ?_
            refine lv_aload_n hx hb dX8_layMet_146 rfl (lv_at hl 0 rfl) ?_
            refine gf_X8_54 F hP dX8_layMet_147 ?_
            refine lv_sipush (v := 160) hx hb dX8_layMet_150 (by decide) ?_
            refine lv_iload_n hx hb dX8_layMet_153 rfl (lv_at hl 1 rfl) ?_
            refine lv_imul hx hb dX8_layMet_154 ?_
            refine lv_iload_n hx hb dX8_layMet_155 rfl (lv_at hl 2 rfl) ?_
            refine lv_iadd hx hb dX8_layMet_156 ?_
            obtain ⟨h157, hG⟩ := f_gd hG
            have i157 := f_fin h157
            refine x_zald F hP rfl rfl i157 dX8_layMet_157 ?_
            obtain ⟨o158, σj158, hT158, hG⟩ := f_bd hG
            have T158 : ∀ (H : Heap) (locs : List Loc) (ls : Array Slot), f_h E σj158 H → va_S (f_A E) s.heap H locs → lv_has ls 6 [(0, .ref (E.2.1 61)), (1, .int a1), (2, .int x127_2)] → W p l e rm_X8_layMet s m args below meth c H locs 0 0 Q (F0 m 178 ls [.int o158, .int (((160 : Int32) * a1) + x127_2), .ref (E.2.1 76)]) := by
              intro H locs ls hP hS hl
              obtain ⟨h178, hG⟩ := f_gd hG
              have i178 := f_fin h178
              obtain ⟨z178, hG⟩ := f_gd hG
              refine x_zast F hS hP rfl rfl (x_zB _ (f_isB z178)) i178 dX8_layMet_178 (fun H locs hP hS => ?_)
              obtain ⟨σ178, e178⟩ : ∃ t : fS, t = sI σj158 76 ((((160 : Int32) * a1) + x127_2)).toNatClampNeg o158 := ⟨_, rfl⟩
              rw [← e178] at hP
              have hG := f_lt hG e178
              refine lv_aload_n hx hb dX8_layMet_179 rfl (lv_at hl 0 rfl) ?_
              refine gf_X8_51 F hP dX8_layMet_180 ?_
              refine lv_iload_n hx hb dX8_layMet_183 rfl (lv_at hl 1 rfl) ?_
              refine lv_dup2_11 hx hb dX8_layMet_184 rfl rfl ?_
              obtain ⟨h185, hG⟩ := f_gd hG
              have i185 := f_fin h185
              refine x_iald F hP rfl rfl i185 dX8_layMet_185 ?_
              refine lv_aload_n hx hb dX8_layMet_186 rfl (lv_at hl 0 rfl) ?_
              refine gf_X8_54 F hP dX8_layMet_187 ?_
              refine lv_sipush (v := 160) hx hb dX8_layMet_190 (by decide) ?_
              refine lv_iload_n hx hb dX8_layMet_193 rfl (lv_at hl 1 rfl) ?_
              refine lv_imul hx hb dX8_layMet_194 ?_
              refine lv_iload_n hx hb dX8_layMet_195 rfl (lv_at hl 2 rfl) ?_
              refine lv_iadd hx hb dX8_layMet_196 ?_
              obtain ⟨h197, hG⟩ := f_gd hG
              have i197 := f_fin h197
              refine x_zald F hP rfl rfl i197 dX8_layMet_197 ?_
              obtain ⟨o198, σj198, hT198, hG⟩ := f_bd hG
              have T198 : ∀ (H : Heap) (locs : List Loc) (ls : Array Slot), f_h E σj198 H → va_S (f_A E) s.heap H locs → lv_has ls 6 [(0, .ref (E.2.1 61)), (1, .int a1), (2, .int x127_2)] → W p l e rm_X8_layMet s m args below meth c H locs 0 0 Q (F0 m 206 ls [.int o198, .int (σ178.1 75 (a1).toNatClampNeg), .int a1, .ref (E.2.1 75)]) := by
                intro H locs ls hP hS hl
                refine lv_iadd hx hb dX8_layMet_206 ?_
                obtain ⟨h207, hG⟩ := f_gd hG
                have i207 := f_fin h207
                refine x_iast F hS hP rfl rfl i207 dX8_layMet_207 (fun H locs hP hS => ?_)
                obtain ⟨σ207, e207⟩ : ∃ t : fS, t = sI σj198 75 (a1).toNatClampNeg ((σ178.1 75 (a1).toNatClampNeg) + o198) := ⟨_, rfl⟩
                rw [← e207] at hP
                have hG := f_lt hG e207
                refine lv_iinc (v := (x127_2 + (1 : Int32))) (lv' := [(2, .int (x127_2 + (1 : Int32))), (0, .ref (E.2.1 61)), (1, .int a1)]) hx hb dX8_layMet_208 hl (k := 2) rfl (by rfl) (by decide) rfl (fun ls hl => ?_)
                refine lv_goto (tgt := 127) hx hb dX8_layMet_211 (by decide) ?_
                exact ih127 (x127_2 + (1 : Int32)) σ207 _ _ _ hP hS (lv_sub hl [1, 2, 0] rfl) hG
              have hG := hT198
              clear hT198
              refine lv_if_eq (tgt := 205) hx hb dX8_layMet_198 (by decide) (fun c198 => ?_) (fun c198 => ?_)
              · have hG := f_ip c198 hG
                refine lv_iconst (v := 0) hx hb dX8_layMet_205 (by decide) ?_
                cases hG
                exact T198 _ _ _ hP hS (lv_sub hl [0, 1, 2] rfl)
              · have hG := f_in c198 hG
                refine lv_iconst (v := 1) hx hb dX8_layMet_201 (by decide) ?_
                refine lv_goto (tgt := 206) hx hb dX8_layMet_202 (by decide) ?_
                cases hG
                exact T198 _ _ _ hP hS (lv_sub hl [0, 1, 2] rfl)
            have hG := hT158
            clear hT158
            refine lv_if_eq (tgt := 177) hx hb dX8_layMet_158 (by decide) (fun c158 => ?_) (fun c158 => ?_)
            · have hG := f_ip c158 hG
              refine lv_iconst (v := 0) hx hb dX8_layMet_177 (by decide) ?_
              cases hG
              exact T158 _ _ _ hP hS (lv_sub hl [0, 1, 2] rfl)
            · have hG := f_in c158 hG
              refine lv_aload_n hx hb dX8_layMet_161 rfl (lv_at hl 0 rfl) ?_
              refine gf_X8_260 F hP dX8_layMet_162 ?_
              refine lv_iload_n hx hb dX8_layMet_165 rfl (lv_at hl 2 rfl) ?_
              obtain ⟨r166, σ166, hC166, hG⟩ := f_bd hG
              refine iv_X8_263 F hS hP (c_X8_common l E N (σh127.1 61 13) x127_2 σh127 _ _ hC166) ⟨Nat.le_of_ble_eq_true rfl, Nat.le_of_ble_eq_true rfl⟩ hl.1 (Nat.le_of_ble_eq_true rfl) dX8_layMet_166 ⟨Nat.zero_le _, Nat.zero_le _⟩ (fun H locs hP hS => ?_)
              refine lv_iconst (v := 1) hx hb dX8_layMet_169 (by decide) ?_
              refine lv_icmp_ne (tgt := 177) hx hb dX8_layMet_170 (by decide) (fun c170 => ?_) (fun c170 => ?_)
              · have hG := f_in c170 hG
                refine lv_iconst (v := 0) hx hb dX8_layMet_177 (by decide) ?_
                cases hG
                exact T158 _ _ _ hP hS (lv_sub hl [0, 1, 2] rfl)
              · have hG := f_ip c170 hG
                refine lv_iconst (v := 1) hx hb dX8_layMet_173 (by decide) ?_
                refine lv_goto (tgt := 178) hx hb dX8_layMet_174 (by decide) ?_
                cases hG
                exact T158 _ _ _ hP hS (lv_sub hl [0, 1, 2] rfl)
      exact L127 N (0 : Int32) σ124 _ _ _ hP hS (lv_sub hl [1, 2, 0] rfl) hT127
    have L31 : ∀ (n31 : Nat) (x31_2 : Int32) (σh31 : fS) (H : Heap) (locs : List Loc) (ls : Array Slot), f_h E σh31 H → va_S (f_A E) s.heap H locs → lv_has ls 6 [(0, .ref (E.2.1 61)), (1, .int a1), (2, .int x31_2)] → lp_X8_layMet_31 N a1 n31 x31_2 σh31 = some σl31 → W p l e rm_X8_layMet s m args below meth c H locs 0 0 Q (F0 m 31 ls []) := by
      intro n31
      induction n31 with
      | zero =>
        intro x31_2 σh31 H locs ls hP hS hl hG
        rw [lp_X8_layMet_31] at hG
        cases hG
      | succ n31 ih31 =>
        intro x31_2 σh31 H locs ls hP hS hl hG
        rw [lp_X8_layMet_31] at hG
        refine lv_iload_n hx hb dX8_layMet_31 rfl (lv_at hl 2 rfl) ?_
        refine lv_aload_n hx hb dX8_layMet_32 rfl (lv_at hl 0 rfl) ?_
        refine gf_X8_260 F hP dX8_layMet_33 ?_
        refine lv_icmp_ge (tgt := 118) hx hb dX8_layMet_36 (by decide) (fun c36 => ?_) (fun c36 => ?_)
        · have hG := f_ip c36 hG
          cases hG
          exact T31 _ _ _ hP hS (lv_sub hl [0, 1] rfl)
        · have hG := f_in c36 hG
          refine lv_iconst (v := 0) hx hb dX8_layMet_39 (by decide) ?_
          refine lv_istore_n (lv' := [(3, .int (0 : Int32)), (0, .ref (E.2.1 61)), (1, .int a1), (2, .int x31_2)]) hx hb dX8_layMet_40 rfl hl (by decide) rfl (fun ls hl => ?_)
          obtain ⟨σl41, hT41, hG⟩ := f_bv hG
          have T41 : ∀ (H : Heap) (locs : List Loc) (ls : Array Slot), f_h E σl41 H → va_S (f_A E) s.heap H locs → lv_has ls 6 [(0, .ref (E.2.1 61)), (1, .int a1), (2, .int x31_2)] → W p l e rm_X8_layMet s m args below meth c H locs 0 0 Q (F0 m 112 ls []) := by
            intro H locs ls hP hS hl
            refine lv_iinc (v := (x31_2 + (1 : Int32))) (lv' := [(2, .int (x31_2 + (1 : Int32))), (0, .ref (E.2.1 61)), (1, .int a1)]) hx hb dX8_layMet_112 hl (k := 2) rfl (by rfl) (by decide) rfl (fun ls hl => ?_)
            refine lv_goto (tgt := 31) hx hb dX8_layMet_115 (by decide) ?_
            exact ih31 (x31_2 + (1 : Int32)) σl41 _ _ _ hP hS (lv_sub hl [1, 2, 0] rfl) hG
          have L41 : ∀ (n41 : Nat) (x41_3 : Int32) (σh41 : fS) (H : Heap) (locs : List Loc) (ls : Array Slot), f_h E σh41 H → va_S (f_A E) s.heap H locs → lv_has ls 6 [(0, .ref (E.2.1 61)), (1, .int a1), (2, .int x31_2), (3, .int x41_3)] → lp_X8_layMet_41 N a1 x31_2 n41 x41_3 σh41 = some σl41 → W p l e rm_X8_layMet s m args below meth c H locs 0 0 Q (F0 m 41 ls []) := by
            intro n41
            induction n41 with
            | zero =>
              intro x41_3 σh41 H locs ls hP hS hl hG
              rw [lp_X8_layMet_41] at hG
              cases hG
            | succ n41 ih41 =>
              intro x41_3 σh41 H locs ls hP hS hl hG
              rw [lp_X8_layMet_41] at hG
              refine lv_iload_n hx hb dX8_layMet_41 rfl (lv_at hl 3 rfl) ?_
              refine lv_aload_n hx hb dX8_layMet_42 rfl (lv_at hl 0 rfl) ?_
              refine gf_X8_260 F hP dX8_layMet_43 ?_
              refine lv_icmp_ge (tgt := 112) hx hb dX8_layMet_46 (by decide) (fun c46 => ?_) (fun c46 => ?_)
              · have hG := f_ip c46 hG
                cases hG
                exact T41 _ _ _ hP hS (lv_sub hl [0, 1, 2] rfl)
              · have hG := f_in c46 hG
                refine lv_aload_n hx hb dX8_layMet_49 rfl (lv_at hl 0 rfl) ?_
                refine gf_X8_39 F hP dX8_layMet_50 ?_
                refine lv_iload_n hx hb dX8_layMet_53 rfl (lv_at hl 1 rfl) ?_
                obtain ⟨h54, hG⟩ := f_gd hG
                have i54 := f_fin h54
                refine x_iald F hP rfl rfl i54 dX8_layMet_54 ?_
                refine lv_iload_n hx hb dX8_layMet_55 rfl (lv_at hl 2 rfl) ?_
                refine lv_imul hx hb dX8_layMet_56 ?_
                refine lv_iload_n hx hb dX8_layMet_57 rfl (lv_at hl 2 rfl) ?_
                refine lv_imul hx hb dX8_layMet_58 ?_
                refine lv_aload_n hx hb dX8_layMet_59 rfl (lv_at hl 0 rfl) ?_
                refine gf_X8_42 F hP dX8_layMet_60 ?_
                refine lv_iload_n hx hb dX8_layMet_63 rfl (lv_at hl 1 rfl) ?_
                obtain ⟨h64, hG⟩ := f_gd hG
                have i64 := f_fin h64
                refine x_iald F hP rfl rfl i64 dX8_layMet_64 ?_
                refine lv_iload_n hx hb dX8_layMet_65 rfl (lv_at hl 2 rfl) ?_
                refine lv_imul hx hb dX8_layMet_66 ?_
                refine lv_iload_n hx hb dX8_layMet_67 rfl (lv_at hl 3 rfl) ?_
                refine lv_imul hx hb dX8_layMet_68 ?_
                refine lv_iadd hx hb dX8_layMet_69 ?_
                refine lv_aload_n hx hb dX8_layMet_70 rfl (lv_at hl 0 rfl) ?_
                refine gf_X8_45 F hP dX8_layMet_71 ?_
                refine lv_iload_n hx hb dX8_layMet_74 rfl (lv_at hl 1 rfl) ?_
                obtain ⟨h75, hG⟩ := f_gd hG
                have i75 := f_fin h75
                refine x_iald F hP rfl rfl i75 dX8_layMet_75 ?_
                refine lv_iload_n hx hb dX8_layMet_76 rfl (lv_at hl 3 rfl) ?_
                refine lv_imul hx hb dX8_layMet_77 ?_
                refine lv_iload_n hx hb dX8_layMet_78 rfl (lv_at hl 3 rfl) ?_
                refine lv_imul hx hb dX8_layMet_79 ?_
                refine lv_iadd hx hb dX8_layMet_80 ?_
                refine lv_topi (fun v81 e81 => ?_)
                have hG := f_lt hG e81
                refine lv_istore (lv' := [(4, .int v81), (0, .ref (E.2.1 61)), (1, .int a1), (2, .int x31_2), (3, .int x41_3)]) hx hb dX8_layMet_81 hl (by decide) rfl (fun ls hl => ?_)
                refine lv_iload hx hb dX8_layMet_83 (lv_at hl 0 rfl) ?_
                refine lv_aload_n hx hb dX8_layMet_85 rfl (lv_at hl 1 rfl) ?_
                refine gf_X8_260 F hP dX8_layMet_86 ?_
                obtain ⟨h89, hG⟩ := f_gd hG
                refine x_irem F dX8_layMet_89 (f_nz h89) ?_
                refine lv_topi (fun v90 e90 => ?_)
                have hG := f_lt hG e90
                refine lv_istore (lv' := [(5, .int v90), (4, .int v81), (0, .ref (E.2.1 61)), (1, .int a1), (2, .int x31_2), (3, .int x41_3)]) hx hb dX8_layMet_90 hl (by decide) rfl (fun ls hl => ?_)
                refine lv_aload_n hx hb dX8_layMet_92 rfl (lv_at hl 2 rfl) ?_
                refine gf_X8_54 F hP dX8_layMet_93 ?_
                refine lv_sipush (v := 160) hx hb dX8_layMet_96 (by decide) ?_
                refine lv_iload_n hx hb dX8_layMet_99 rfl (lv_at hl 3 rfl) ?_
                refine lv_imul hx hb dX8_layMet_100 ?_
                refine lv_iload hx hb dX8_layMet_101 (lv_at hl 0 rfl) ?_
                refine lv_iadd hx hb dX8_layMet_103 ?_
                refine lv_iconst (v := 1) hx hb dX8_layMet_104 (by decide) ?_
                obtain ⟨h105, hG⟩ := f_gd hG
                have i105 := f_fin h105
                refine x_zast F hS hP rfl rfl (x_zB _ (Or.inr rfl)) i105 dX8_layMet_105 (fun H locs hP hS => ?_)
                obtain ⟨σ105, e105⟩ : ∃ t : fS, t = sI σh41 76 ((((160 : Int32) * a1) + v90)).toNatClampNeg (1 : Int32) := ⟨_, rfl⟩
                rw [← e105] at hP
                have hG := f_lt hG e105
                refine lv_iinc (v := (x41_3 + (1 : Int32))) (lv' := [(3, .int (x41_3 + (1 : Int32))), (5, .int v90), (4, .int v81), (0, .ref (E.2.1 61)), (1, .int a1), (2, .int x31_2)]) hx hb dX8_layMet_106 hl (k := 5) rfl (by rfl) (by decide) rfl (fun ls hl => ?_)
                refine lv_goto (tgt := 41) hx hb dX8_layMet_109 (by decide) ?_
                exact ih41 (x41_3 + (1 : Int32)) σ105 _ _ _ hP hS (lv_sub hl [3, 4, 5, 0] rfl) hG
          exact L41 N (0 : Int32) σh31 _ _ _ hP hS (lv_sub hl [1, 2, 3, 0] rfl) hT41
    exact L31 N (0 : Int32) σl2 _ _ _ hP hS (lv_sub hl [1, 2, 0] rfl) hT31
  have L2 : ∀ (n2 : Nat) (x2_2 : Int32) (σh2 : fS) (H : Heap) (locs : List Loc) (ls : Array Slot), f_h E σh2 H → va_S (f_A E) s.heap H locs → lv_has ls 6 [(0, .ref (E.2.1 61)), (1, .int a1), (2, .int x2_2)] → lp_X8_layMet_2 N a1 n2 x2_2 σh2 = some σl2 → W p l e rm_X8_layMet s m args below meth c H locs 0 0 Q (F0 m 2 ls []) := by
    intro n2
    induction n2 with
    | zero =>
      intro x2_2 σh2 H locs ls hP hS hl hG
      rw [lp_X8_layMet_2] at hG
      cases hG
    | succ n2 ih2 =>
      intro x2_2 σh2 H locs ls hP hS hl hG
      rw [lp_X8_layMet_2] at hG
      refine lv_iload_n hx hb dX8_layMet_2 rfl (lv_at hl 2 rfl) ?_
      refine lv_aload_n hx hb dX8_layMet_3 rfl (lv_at hl 0 rfl) ?_
      refine gf_X8_260 F hP dX8_layMet_4 ?_
      refine lv_icmp_ge (tgt := 29) hx hb dX8_layMet_7 (by decide) (fun c7 => ?_) (fun c7 => ?_)
      · have hG := f_ip c7 hG
        cases hG
        exact T2 _ _ _ hP hS (lv_sub hl [0, 1] rfl)
      · have hG := f_in c7 hG
        refine lv_aload_n hx hb dX8_layMet_10 rfl (lv_at hl 0 rfl) ?_
        refine gf_X8_54 F hP dX8_layMet_11 ?_
        refine lv_sipush (v := 160) hx hb dX8_layMet_14 (by decide) ?_
        refine lv_iload_n hx hb dX8_layMet_17 rfl (lv_at hl 1 rfl) ?_
        refine lv_imul hx hb dX8_layMet_18 ?_
        refine lv_iload_n hx hb dX8_layMet_19 rfl (lv_at hl 2 rfl) ?_
        refine lv_iadd hx hb dX8_layMet_20 ?_
        refine lv_iconst (v := 0) hx hb dX8_layMet_21 (by decide) ?_
        obtain ⟨h22, hG⟩ := f_gd hG
        have i22 := f_fin h22
        refine x_zast F hS hP rfl rfl (x_zB _ (Or.inl rfl)) i22 dX8_layMet_22 (fun H locs hP hS => ?_)
        obtain ⟨σ22, e22⟩ : ∃ t : fS, t = sI σh2 76 ((((160 : Int32) * a1) + x2_2)).toNatClampNeg (0 : Int32) := ⟨_, rfl⟩
        rw [← e22] at hP
        have hG := f_lt hG e22
        refine lv_iinc (v := (x2_2 + (1 : Int32))) (lv' := [(2, .int (x2_2 + (1 : Int32))), (0, .ref (E.2.1 61)), (1, .int a1)]) hx hb dX8_layMet_23 hl (k := 2) rfl (by rfl) (by decide) rfl (fun ls hl => ?_)
        refine lv_goto (tgt := 2) hx hb dX8_layMet_26 (by decide) ?_
        exact ih2 (x2_2 + (1 : Int32)) σ22 _ _ _ hP hS (lv_sub hl [1, 2, 0] rfl) hG
  exact L2 N (0 : Int32) σ _ _ _ hP hS (lv_sub hl [1, 2, 0] rfl) hT2
theorem dX8_isSame_0 : decode cX8_isSame 0 = .ok (.iconst 1, 1) := by decide +kernel
theorem dX8_isSame_1 : decode cX8_isSame 1 = .ok (.istore_n 3, 1) := by decide +kernel
theorem dX8_isSame_2 : decode cX8_isSame 2 = .ok (.iconst 0, 1) := by decide +kernel
theorem dX8_isSame_3 : decode cX8_isSame 3 = .ok (.istore 4, 2) := by decide +kernel
theorem dX8_isSame_5 : decode cX8_isSame 5 = .ok (.iload 4, 2) := by decide +kernel
theorem dX8_isSame_7 : decode cX8_isSame 7 = .ok (.aload_n 0, 1) := by decide +kernel
theorem dX8_isSame_8 : decode cX8_isSame 8 = .ok (.getfield 260, 3) := by decide +kernel
theorem dX8_isSame_11 : decode cX8_isSame 11 = .ok (.if_icmp .ge 48, 3) := by decide +kernel
theorem dX8_isSame_14 : decode cX8_isSame 14 = .ok (.iload_n 3, 1) := by decide +kernel
theorem dX8_isSame_15 : decode cX8_isSame 15 = .ok (.ifCond .eq 36, 3) := by decide +kernel
theorem dX8_isSame_18 : decode cX8_isSame 18 = .ok (.aload_n 0, 1) := by decide +kernel
theorem dX8_isSame_19 : decode cX8_isSame 19 = .ok (.getfield 54, 3) := by decide +kernel
theorem dX8_isSame_22 : decode cX8_isSame 22 = .ok (.sipush 160, 3) := by decide +kernel
theorem dX8_isSame_25 : decode cX8_isSame 25 = .ok (.iload_n 1, 1) := by decide +kernel
theorem dX8_isSame_26 : decode cX8_isSame 26 = .ok (.imul, 1) := by decide +kernel
theorem dX8_isSame_27 : decode cX8_isSame 27 = .ok (.iload 4, 2) := by decide +kernel
theorem dX8_isSame_29 : decode cX8_isSame 29 = .ok (.iadd, 1) := by decide +kernel
theorem dX8_isSame_30 : decode cX8_isSame 30 = .ok (.baload, 1) := by decide +kernel
theorem dX8_isSame_31 : decode cX8_isSame 31 = .ok (.aload_n 0, 1) := by decide +kernel
theorem dX8_isSame_32 : decode cX8_isSame 32 = .ok (.getfield 54, 3) := by decide +kernel
theorem dX8_isSame_35 : decode cX8_isSame 35 = .ok (.sipush 160, 3) := by decide +kernel
theorem dX8_isSame_38 : decode cX8_isSame 38 = .ok (.iload_n 2, 1) := by decide +kernel
theorem dX8_isSame_39 : decode cX8_isSame 39 = .ok (.imul, 1) := by decide +kernel
theorem dX8_isSame_40 : decode cX8_isSame 40 = .ok (.iload 4, 2) := by decide +kernel
theorem dX8_isSame_42 : decode cX8_isSame 42 = .ok (.iadd, 1) := by decide +kernel
theorem dX8_isSame_43 : decode cX8_isSame 43 = .ok (.baload, 1) := by decide +kernel
theorem dX8_isSame_44 : decode cX8_isSame 44 = .ok (.if_icmp .ne 7, 3) := by decide +kernel
theorem dX8_isSame_47 : decode cX8_isSame 47 = .ok (.iconst 1, 1) := by decide +kernel
theorem dX8_isSame_48 : decode cX8_isSame 48 = .ok (.goto 4, 3) := by decide +kernel
theorem dX8_isSame_51 : decode cX8_isSame 51 = .ok (.iconst 0, 1) := by decide +kernel
theorem dX8_isSame_52 : decode cX8_isSame 52 = .ok (.istore_n 3, 1) := by decide +kernel
theorem dX8_isSame_53 : decode cX8_isSame 53 = .ok (.iinc 4 1, 3) := by decide +kernel
theorem dX8_isSame_56 : decode cX8_isSame 56 = .ok (.goto (-51), 3) := by decide +kernel
theorem dX8_isSame_59 : decode cX8_isSame 59 = .ok (.iload_n 3, 1) := by decide +kernel
theorem dX8_isSame_60 : decode cX8_isSame 60 = .ok (.ireturn, 1) := by decide +kernel
set_option maxHeartbeats 4000000 in
set_option maxRecDepth 100000 in
theorem c_X8_isSame (l : Launch) (E : fEv) (N : Nat) (a1 : Int32) (a2 : Int32) (σ : fS) (r : Int32) (τ : fS) (hG : g_X8_isSame N a1 a2 σ = some (r, τ)) : fM l E yX8_isSame (.code yX8_isSame cX8_isSame 5 (some .boolean)) rm_X8_isSame [.ref (E.2.1 61), .int a1, .int a2] σ τ (some (.int r)) := by
  refine f_openZ (by decide) (Nat.le_of_ble_eq_true rfl) ?_
  intro p e s m below meth c args Q F hR hP ls hl
  have hx := F.1.1
  have hb := F.1.2.1
  have hown := F.1.2.2.2.1
  have hts := F.1.2.2.2.2
  have hS : va_S (f_A E) s.heap s.heap [] := va_S.rf
  skip
  have hl : lv_has ls 5 [(0, .ref (E.2.1 61)), (1, .int a1), (2, .int a2)] := hl
  unfold g_X8_isSame at hG
  refine lv_iconst (v := 1) hx hb dX8_isSame_0 (by decide) ?_
  refine lv_istore_n (lv' := [(3, .int (1 : Int32)), (0, .ref (E.2.1 61)), (1, .int a1), (2, .int a2)]) hx hb dX8_isSame_1 rfl hl (by decide) rfl (fun ls hl => ?_)
  refine lv_iconst (v := 0) hx hb dX8_isSame_2 (by decide) ?_
  refine lv_istore (lv' := [(4, .int (0 : Int32)), (3, .int (1 : Int32)), (0, .ref (E.2.1 61)), (1, .int a1), (2, .int a2)]) hx hb dX8_isSame_3 hl (by decide) rfl (fun ls hl => ?_)
  obtain ⟨o5, σl5, hT5, hG⟩ := f_bd hG
  have T5 : ∀ (H : Heap) (locs : List Loc) (ls : Array Slot), f_h E σl5 H → va_S (f_A E) s.heap H locs → lv_has ls 5 [(3, .int o5)] → W p l e rm_X8_isSame s m args below meth c H locs 0 0 Q (F0 m 59 ls []) := by
    intro H locs ls hP hS hl
    refine lv_iload_n hx hb dX8_isSame_59 rfl (lv_at hl 0 rfl) ?_
    obtain ⟨h60, hG⟩ := f_gd hG
    exact x_rz hR hS hP (f_isB h60) hG dX8_isSame_60
  have L5 : ∀ (n5 : Nat) (x5_3 : Int32) (x5_4 : Int32) (σh5 : fS) (H : Heap) (locs : List Loc) (ls : Array Slot), f_h E σh5 H → va_S (f_A E) s.heap H locs → lv_has ls 5 [(0, .ref (E.2.1 61)), (1, .int a1), (2, .int a2), (3, .int x5_3), (4, .int x5_4)] → lp_X8_isSame_5 N a1 a2 n5 x5_3 x5_4 σh5 = some (o5, σl5) → W p l e rm_X8_isSame s m args below meth c H locs 0 0 Q (F0 m 5 ls []) := by
    intro n5
    induction n5 with
    | zero =>
      intro x5_3 x5_4 σh5 H locs ls hP hS hl hG
      rw [lp_X8_isSame_5] at hG
      cases hG
    | succ n5 ih5 =>
      intro x5_3 x5_4 σh5 H locs ls hP hS hl hG
      rw [lp_X8_isSame_5] at hG
      refine lv_iload hx hb dX8_isSame_5 (lv_at hl 4 rfl) ?_
      refine lv_aload_n hx hb dX8_isSame_7 rfl (lv_at hl 0 rfl) ?_
      refine gf_X8_260 F hP dX8_isSame_8 ?_
      refine lv_icmp_ge (tgt := 59) hx hb dX8_isSame_11 (by decide) (fun c11 => ?_) (fun c11 => ?_)
      · have hG := f_ip c11 hG
        cases hG
        exact T5 _ _ _ hP hS (lv_sub hl [3] rfl)
      · have hG := f_in c11 hG
        refine lv_iload_n hx hb dX8_isSame_14 rfl (lv_at hl 3 rfl) ?_
        refine lv_if_eq (tgt := 51) hx hb dX8_isSame_15 (by decide) (fun c15 => ?_) (fun c15 => ?_)
        · have hG := f_ip c15 hG
          refine lv_iconst (v := 0) hx hb dX8_isSame_51 (by decide) ?_
          refine lv_istore_n (lv' := [(3, .int (0 : Int32)), (0, .ref (E.2.1 61)), (1, .int a1), (2, .int a2), (4, .int x5_4)]) hx hb dX8_isSame_52 rfl hl (by decide) rfl (fun ls hl => ?_)
          refine lv_iinc (v := (x5_4 + (1 : Int32))) (lv' := [(4, .int (x5_4 + (1 : Int32))), (3, .int (0 : Int32)), (0, .ref (E.2.1 61)), (1, .int a1), (2, .int a2)]) hx hb dX8_isSame_53 hl (k := 4) rfl (by rfl) (by decide) rfl (fun ls hl => ?_)
          refine lv_goto (tgt := 5) hx hb dX8_isSame_56 (by decide) ?_
          exact ih5 (0 : Int32) (x5_4 + (1 : Int32)) σh5 _ _ _ hP hS (lv_sub hl [2, 3, 4, 1, 0] rfl) hG
        · have hG := f_in c15 hG
          refine lv_aload_n hx hb dX8_isSame_18 rfl (lv_at hl 0 rfl) ?_
          refine gf_X8_54 F hP dX8_isSame_19 ?_
          refine lv_sipush (v := 160) hx hb dX8_isSame_22 (by decide) ?_
          refine lv_iload_n hx hb dX8_isSame_25 rfl (lv_at hl 1 rfl) ?_
          refine lv_imul hx hb dX8_isSame_26 ?_
          refine lv_iload hx hb dX8_isSame_27 (lv_at hl 4 rfl) ?_
          refine lv_iadd hx hb dX8_isSame_29 ?_
          obtain ⟨h30, hG⟩ := f_gd hG
          have i30 := f_fin h30
          refine x_zald F hP rfl rfl i30 dX8_isSame_30 ?_
          refine lv_aload_n hx hb dX8_isSame_31 rfl (lv_at hl 0 rfl) ?_
          refine gf_X8_54 F hP dX8_isSame_32 ?_
          refine lv_sipush (v := 160) hx hb dX8_isSame_35 (by decide) ?_
          refine lv_iload_n hx hb dX8_isSame_38 rfl (lv_at hl 2 rfl) ?_
          refine lv_imul hx hb dX8_isSame_39 ?_
          refine lv_iload hx hb dX8_isSame_40 (lv_at hl 4 rfl) ?_
          refine lv_iadd hx hb dX8_isSame_42 ?_
          obtain ⟨h43, hG⟩ := f_gd hG
          have i43 := f_fin h43
          refine x_zald F hP rfl rfl i43 dX8_isSame_43 ?_
          refine lv_icmp_ne (tgt := 51) hx hb dX8_isSame_44 (by decide) (fun c44 => ?_) (fun c44 => ?_)
          · have hG := f_in c44 hG
            refine lv_iconst (v := 0) hx hb dX8_isSame_51 (by decide) ?_
            refine lv_istore_n (lv' := [(3, .int (0 : Int32)), (0, .ref (E.2.1 61)), (1, .int a1), (2, .int a2), (4, .int x5_4)]) hx hb dX8_isSame_52 rfl hl (by decide) rfl (fun ls hl => ?_)
            refine lv_iinc (v := (x5_4 + (1 : Int32))) (lv' := [(4, .int (x5_4 + (1 : Int32))), (3, .int (0 : Int32)), (0, .ref (E.2.1 61)), (1, .int a1), (2, .int a2)]) hx hb dX8_isSame_53 hl (k := 4) rfl (by rfl) (by decide) rfl (fun ls hl => ?_)
            refine lv_goto (tgt := 5) hx hb dX8_isSame_56 (by decide) ?_
            exact ih5 (0 : Int32) (x5_4 + (1 : Int32)) σh5 _ _ _ hP hS (lv_sub hl [2, 3, 4, 1, 0] rfl) hG
          · have hG := f_ip c44 hG
            refine lv_iconst (v := 1) hx hb dX8_isSame_47 (by decide) ?_
            refine lv_goto (tgt := 52) hx hb dX8_isSame_48 (by decide) ?_
            refine lv_istore_n (lv' := [(3, .int (1 : Int32)), (0, .ref (E.2.1 61)), (1, .int a1), (2, .int a2), (4, .int x5_4)]) hx hb dX8_isSame_52 rfl hl (by decide) rfl (fun ls hl => ?_)
            refine lv_iinc (v := (x5_4 + (1 : Int32))) (lv' := [(4, .int (x5_4 + (1 : Int32))), (3, .int (1 : Int32)), (0, .ref (E.2.1 61)), (1, .int a1), (2, .int a2)]) hx hb dX8_isSame_53 hl (k := 4) rfl (by rfl) (by decide) rfl (fun ls hl => ?_)
            refine lv_goto (tgt := 5) hx hb dX8_isSame_56 (by decide) ?_
            exact ih5 (1 : Int32) (x5_4 + (1 : Int32)) σh5 _ _ _ hP hS (lv_sub hl [2, 3, 4, 1, 0] rfl) hG
  exact L5 N (1 : Int32) (0 : Int32) σ _ _ _ hP hS (lv_sub hl [2, 3, 4, 1, 0] rfl) hT5
theorem dX8_pairs_0 : decode cX8_pairs 0 = .ok (.iload_n 1, 1) := by decide +kernel
theorem dX8_pairs_1 : decode cX8_pairs 1 = .ok (.iconst 3, 1) := by decide +kernel
theorem dX8_pairs_2 : decode cX8_pairs 2 = .ok (.sipush 160, 3) := by decide +kernel
theorem dX8_pairs_5 : decode cX8_pairs 5 = .ok (.invokestatic 89, 3) := by decide +kernel
theorem dX8_pairs_8 : decode cX8_pairs 8 = .ok (.ifCond .eq 17, 3) := by decide +kernel
theorem dX8_pairs_11 : decode cX8_pairs 11 = .ok (.iload_n 1, 1) := by decide +kernel
theorem dX8_pairs_12 : decode cX8_pairs 12 = .ok (.iconst 4, 1) := by decide +kernel
theorem dX8_pairs_13 : decode cX8_pairs 13 = .ok (.irem, 1) := by decide +kernel
theorem dX8_pairs_14 : decode cX8_pairs 14 = .ok (.iconst 1, 1) := by decide +kernel
theorem dX8_pairs_15 : decode cX8_pairs 15 = .ok (.if_icmp .eq 10, 3) := by decide +kernel
theorem dX8_pairs_18 : decode cX8_pairs 18 = .ok (.iload_n 1, 1) := by decide +kernel
theorem dX8_pairs_19 : decode cX8_pairs 19 = .ok (.iconst 4, 1) := by decide +kernel
theorem dX8_pairs_20 : decode cX8_pairs 20 = .ok (.irem, 1) := by decide +kernel
theorem dX8_pairs_21 : decode cX8_pairs 21 = .ok (.iconst 2, 1) := by decide +kernel
theorem dX8_pairs_22 : decode cX8_pairs 22 = .ok (.if_icmp .ne 6, 3) := by decide +kernel
theorem dX8_pairs_25 : decode cX8_pairs 25 = .ok (.bipush (-102), 2) := by decide +kernel
theorem dX8_pairs_27 : decode cX8_pairs 27 = .ok (.ireturn, 1) := by decide +kernel
theorem dX8_pairs_28 : decode cX8_pairs 28 = .ok (.aload_n 0, 1) := by decide +kernel
theorem dX8_pairs_29 : decode cX8_pairs 29 = .ok (.iload_n 1, 1) := by decide +kernel
theorem dX8_pairs_30 : decode cX8_pairs 30 = .ok (.putfield 260, 3) := by decide +kernel
theorem dX8_pairs_33 : decode cX8_pairs 33 = .ok (.aload_n 0, 1) := by decide +kernel
theorem dX8_pairs_34 : decode cX8_pairs 34 = .ok (.iconst 0, 1) := by decide +kernel
theorem dX8_pairs_35 : decode cX8_pairs 35 = .ok (.putfield 266, 3) := by decide +kernel
theorem dX8_pairs_38 : decode cX8_pairs 38 = .ok (.iconst 1, 1) := by decide +kernel
theorem dX8_pairs_39 : decode cX8_pairs 39 = .ok (.istore_n 2, 1) := by decide +kernel
theorem dX8_pairs_40 : decode cX8_pairs 40 = .ok (.iconst 3, 1) := by decide +kernel
theorem dX8_pairs_41 : decode cX8_pairs 41 = .ok (.iload_n 2, 1) := by decide +kernel
theorem dX8_pairs_42 : decode cX8_pairs 42 = .ok (.imul, 1) := by decide +kernel
theorem dX8_pairs_43 : decode cX8_pairs 43 = .ok (.iload_n 2, 1) := by decide +kernel
theorem dX8_pairs_44 : decode cX8_pairs 44 = .ok (.imul, 1) := by decide +kernel
theorem dX8_pairs_45 : decode cX8_pairs 45 = .ok (.iload_n 1, 1) := by decide +kernel
theorem dX8_pairs_46 : decode cX8_pairs 46 = .ok (.if_icmp .gt 30, 3) := by decide +kernel
theorem dX8_pairs_49 : decode cX8_pairs 49 = .ok (.iconst 1, 1) := by decide +kernel
theorem dX8_pairs_50 : decode cX8_pairs 50 = .ok (.iload_n 2, 1) := by decide +kernel
theorem dX8_pairs_51 : decode cX8_pairs 51 = .ok (.isub, 1) := by decide +kernel
theorem dX8_pairs_52 : decode cX8_pairs 52 = .ok (.istore_n 3, 1) := by decide +kernel
theorem dX8_pairs_53 : decode cX8_pairs 53 = .ok (.iload_n 3, 1) := by decide +kernel
theorem dX8_pairs_54 : decode cX8_pairs 54 = .ok (.iload_n 2, 1) := by decide +kernel
theorem dX8_pairs_55 : decode cX8_pairs 55 = .ok (.if_icmp .gt 15, 3) := by decide +kernel
theorem dX8_pairs_58 : decode cX8_pairs 58 = .ok (.aload_n 0, 1) := by decide +kernel
theorem dX8_pairs_59 : decode cX8_pairs 59 = .ok (.iload_n 2, 1) := by decide +kernel
theorem dX8_pairs_60 : decode cX8_pairs 60 = .ok (.iload_n 3, 1) := by decide +kernel
theorem dX8_pairs_61 : decode cX8_pairs 61 = .ok (.invokevirtual 269, 3) := by decide +kernel
theorem dX8_pairs_64 : decode cX8_pairs 64 = .ok (.iinc 3 1, 3) := by decide +kernel
theorem dX8_pairs_67 : decode cX8_pairs 67 = .ok (.goto (-14), 3) := by decide +kernel
theorem dX8_pairs_70 : decode cX8_pairs 70 = .ok (.iinc 2 1, 3) := by decide +kernel
theorem dX8_pairs_73 : decode cX8_pairs 73 = .ok (.goto (-33), 3) := by decide +kernel
theorem dX8_pairs_76 : decode cX8_pairs 76 = .ok (.iconst 0, 1) := by decide +kernel
theorem dX8_pairs_77 : decode cX8_pairs 77 = .ok (.istore_n 2, 1) := by decide +kernel
theorem dX8_pairs_78 : decode cX8_pairs 78 = .ok (.iload_n 2, 1) := by decide +kernel
theorem dX8_pairs_79 : decode cX8_pairs 79 = .ok (.aload_n 0, 1) := by decide +kernel
theorem dX8_pairs_80 : decode cX8_pairs 80 = .ok (.getfield 266, 3) := by decide +kernel
theorem dX8_pairs_83 : decode cX8_pairs 83 = .ok (.if_icmp .ge 48, 3) := by decide +kernel
theorem dX8_pairs_86 : decode cX8_pairs 86 = .ok (.aload_n 0, 1) := by decide +kernel
theorem dX8_pairs_87 : decode cX8_pairs 87 = .ok (.iload_n 2, 1) := by decide +kernel
theorem dX8_pairs_88 : decode cX8_pairs 88 = .ok (.invokevirtual 273, 3) := by decide +kernel
theorem dX8_pairs_91 : decode cX8_pairs 91 = .ok (.aload_n 0, 1) := by decide +kernel
theorem dX8_pairs_92 : decode cX8_pairs 92 = .ok (.getfield 48, 3) := by decide +kernel
theorem dX8_pairs_95 : decode cX8_pairs 95 = .ok (.iload_n 2, 1) := by decide +kernel
theorem dX8_pairs_96 : decode cX8_pairs 96 = .ok (.iconst 0, 1) := by decide +kernel
theorem dX8_pairs_97 : decode cX8_pairs 97 = .ok (.iastore, 1) := by decide +kernel
theorem dX8_pairs_98 : decode cX8_pairs 98 = .ok (.aload_n 0, 1) := by decide +kernel
theorem dX8_pairs_99 : decode cX8_pairs 99 = .ok (.aload_n 0, 1) := by decide +kernel
theorem dX8_pairs_100 : decode cX8_pairs 100 = .ok (.getfield 48, 3) := by decide +kernel
theorem dX8_pairs_103 : decode cX8_pairs 103 = .ok (.iload_n 2, 1) := by decide +kernel
theorem dX8_pairs_104 : decode cX8_pairs 104 = .ok (.iaload, 1) := by decide +kernel
theorem dX8_pairs_105 : decode cX8_pairs 105 = .ok (.iload_n 2, 1) := by decide +kernel
theorem dX8_pairs_106 : decode cX8_pairs 106 = .ok (.invokevirtual 276, 3) := by decide +kernel
theorem dX8_pairs_109 : decode cX8_pairs 109 = .ok (.ifCond .ne 16, 3) := by decide +kernel
theorem dX8_pairs_112 : decode cX8_pairs 112 = .ok (.aload_n 0, 1) := by decide +kernel
theorem dX8_pairs_113 : decode cX8_pairs 113 = .ok (.getfield 48, 3) := by decide +kernel
theorem dX8_pairs_116 : decode cX8_pairs 116 = .ok (.iload_n 2, 1) := by decide +kernel
theorem dX8_pairs_117 : decode cX8_pairs 117 = .ok (.dup2, 1) := by decide +kernel
theorem dX8_pairs_118 : decode cX8_pairs 118 = .ok (.iaload, 1) := by decide +kernel
theorem dX8_pairs_119 : decode cX8_pairs 119 = .ok (.iconst 1, 1) := by decide +kernel
theorem dX8_pairs_120 : decode cX8_pairs 120 = .ok (.iadd, 1) := by decide +kernel
theorem dX8_pairs_121 : decode cX8_pairs 121 = .ok (.iastore, 1) := by decide +kernel
theorem dX8_pairs_122 : decode cX8_pairs 122 = .ok (.goto (-24), 3) := by decide +kernel
theorem dX8_pairs_125 : decode cX8_pairs 125 = .ok (.iinc 2 1, 3) := by decide +kernel
theorem dX8_pairs_128 : decode cX8_pairs 128 = .ok (.goto (-50), 3) := by decide +kernel
theorem dX8_pairs_131 : decode cX8_pairs 131 = .ok (.aload_n 0, 1) := by decide +kernel
theorem dX8_pairs_132 : decode cX8_pairs 132 = .ok (.getfield 266, 3) := by decide +kernel
theorem dX8_pairs_135 : decode cX8_pairs 135 = .ok (.ireturn, 1) := by decide +kernel
set_option maxHeartbeats 4000000 in
set_option maxRecDepth 100000 in
theorem c_X8_pairs (l : Launch) (E : fEv) (N : Nat) (a1 : Int32) (σ : fS) (r : Int32) (τ : fS) (hG : g_X8_pairs N a1 σ = some (r, τ)) : fM l E yX8_pairs (.code yX8_pairs cX8_pairs 4 (some .int)) rm_X8_pairs [.ref (E.2.1 61), .int a1] σ τ (some (.int r)) := by
  refine f_openI (by decide) (Nat.le_of_ble_eq_true rfl) ?_
  intro p e s m below meth c args Q F hR hP ls hl
  have hx := F.1.1
  have hb := F.1.2.1
  have hown := F.1.2.2.2.1
  have hts := F.1.2.2.2.2
  have hS : va_S (f_A E) s.heap s.heap [] := va_S.rf
  skip
  have hl : lv_has ls 4 [(0, .ref (E.2.1 61)), (1, .int a1)] := hl
  unfold g_X8_pairs at hG
  refine lv_iload_n hx hb dX8_pairs_0 rfl (lv_at hl 1 rfl) ?_
  refine lv_iconst (v := 3) hx hb dX8_pairs_1 (by decide) ?_
  refine lv_sipush (v := 160) hx hb dX8_pairs_2 (by decide) ?_
  obtain ⟨r5, σ5, hC5, hG⟩ := f_bd hG
  refine iv_X8_89 F hS hP (c_X8_within l E N a1 (3 : Int32) (160 : Int32) σ _ _ hC5) ⟨Nat.le_of_ble_eq_true rfl, Nat.le_of_ble_eq_true rfl⟩ hl.1 (Nat.le_of_ble_eq_true rfl) dX8_pairs_5 ⟨Nat.zero_le _, Nat.zero_le _⟩ (fun H locs hP hS => ?_)
  refine lv_if_eq (tgt := 25) hx hb dX8_pairs_8 (by decide) (fun c8 => ?_) (fun c8 => ?_)
  · have hG := f_ip c8 hG
    refine lv_bipush (v := -102) hx hb dX8_pairs_25 (by decide) ?_
    exact x_ri hR hS hP hG dX8_pairs_27
  · have hG := f_in c8 hG
    refine lv_iload_n hx hb dX8_pairs_11 rfl (lv_at hl 1 rfl) ?_
    refine lv_iconst (v := 4) hx hb dX8_pairs_12 (by decide) ?_
    refine x_irem F dX8_pairs_13 (by decide) ?_
    refine lv_iconst (v := 1) hx hb dX8_pairs_14 (by decide) ?_
    refine lv_icmp_eq (tgt := 25) hx hb dX8_pairs_15 (by decide) (fun c15 => ?_) (fun c15 => ?_)
    · have hG := f_ip c15 hG
      refine lv_bipush (v := -102) hx hb dX8_pairs_25 (by decide) ?_
      exact x_ri hR hS hP hG dX8_pairs_27
    · have hG := f_in c15 hG
      refine lv_iload_n hx hb dX8_pairs_18 rfl (lv_at hl 1 rfl) ?_
      refine lv_iconst (v := 4) hx hb dX8_pairs_19 (by decide) ?_
      refine x_irem F dX8_pairs_20 (by decide) ?_
      refine lv_iconst (v := 2) hx hb dX8_pairs_21 (by decide) ?_
      refine lv_icmp_ne (tgt := 28) hx hb dX8_pairs_22 (by decide) (fun c22 => ?_) (fun c22 => ?_)
      · have hG := f_in c22 hG
        refine lv_aload_n hx hb dX8_pairs_28 rfl (lv_at hl 0 rfl) ?_
        refine lv_iload_n hx hb dX8_pairs_29 rfl (lv_at hl 1 rfl) ?_
        refine pf_X8_260 F hS hP dX8_pairs_30 (fun H locs hP hS => ?_)
        obtain ⟨σ30, e30⟩ : ∃ t : fS, t = sI σ5 61 13 a1 := ⟨_, rfl⟩
        rw [← e30] at hP
        have hG := f_lt hG e30
        refine lv_aload_n hx hb dX8_pairs_33 rfl (lv_at hl 0 rfl) ?_
        refine lv_iconst (v := 0) hx hb dX8_pairs_34 (by decide) ?_
        refine pf_X8_266 F hS hP dX8_pairs_35 (fun H locs hP hS => ?_)
        obtain ⟨σ35, e35⟩ : ∃ t : fS, t = sI σ30 61 14 (0 : Int32) := ⟨_, rfl⟩
        rw [← e35] at hP
        have hG := f_lt hG e35
        refine lv_iconst (v := 1) hx hb dX8_pairs_38 (by decide) ?_
        refine lv_istore_n (lv' := [(2, .int (1 : Int32)), (0, .ref (E.2.1 61)), (1, .int a1)]) hx hb dX8_pairs_39 rfl hl (by decide) rfl (fun ls hl => ?_)
        obtain ⟨σl40, hT40, hG⟩ := f_bv hG
        have T40 : ∀ (H : Heap) (locs : List Loc) (ls : Array Slot), f_h E σl40 H → va_S (f_A E) s.heap H locs → lv_has ls 4 [(0, .ref (E.2.1 61))] → W p l e rm_X8_pairs s m args below meth c H locs 0 0 Q (F0 m 76 ls []) := by
          intro H locs ls hP hS hl
          refine lv_iconst (v := 0) hx hb dX8_pairs_76 (by decide) ?_
          refine lv_istore_n (lv' := [(2, .int (0 : Int32)), (0, .ref (E.2.1 61))]) hx hb dX8_pairs_77 rfl hl (by decide) rfl (fun ls hl => ?_)
          obtain ⟨σl78, hT78, hG⟩ := f_bv hG
          have T78 : ∀ (H : Heap) (locs : List Loc) (ls : Array Slot), f_h E σl78 H → va_S (f_A E) s.heap H locs → lv_has ls 4 [(0, .ref (E.2.1 61))] → W p l e rm_X8_pairs s m args below meth c H locs 0 0 Q (F0 m 131 ls []) := by
            intro H locs ls hP hS hl
            refine lv_aload_n hx hb dX8_pairs_131 rfl (lv_at hl 0 rfl) ?_
            refine gf_X8_266 F hP dX8_pairs_132 ?_
            exact x_ri hR hS hP hG dX8_pairs_135
          have L78 : ∀ (n78 : Nat) (x78_2 : Int32) (σh78 : fS) (H : Heap) (locs : List Loc) (ls : Array Slot), f_h E σh78 H → va_S (f_A E) s.heap H locs → lv_has ls 4 [(0, .ref (E.2.1 61)), (2, .int x78_2)] → lp_X8_pairs_78 N n78 x78_2 σh78 = some σl78 → W p l e rm_X8_pairs s m args below meth c H locs 0 0 Q (F0 m 78 ls []) := by
            intro n78
            induction n78 with
            | zero =>
              intro x78_2 σh78 H locs ls hP hS hl hG
              rw [lp_X8_pairs_78] at hG
              cases hG
            | succ n78 ih78 =>
              intro x78_2 σh78 H locs ls hP hS hl hG
              rw [lp_X8_pairs_78] at hG
              refine lv_iload_n hx hb dX8_pairs_78 rfl (lv_at hl 1 rfl) ?_
              refine lv_aload_n hx hb dX8_pairs_79 rfl (lv_at hl 0 rfl) ?_
              refine gf_X8_266 F hP dX8_pairs_80 ?_
              refine lv_icmp_ge (tgt := 131) hx hb dX8_pairs_83 (by decide) (fun c83 => ?_) (fun c83 => ?_)
              · have hG := f_ip c83 hG
                cases hG
                exact T78 _ _ _ hP hS (lv_sub hl [0] rfl)
              · have hG := f_in c83 hG
                refine lv_aload_n hx hb dX8_pairs_86 rfl (lv_at hl 0 rfl) ?_
                refine lv_iload_n hx hb dX8_pairs_87 rfl (lv_at hl 1 rfl) ?_
                obtain ⟨σ88, hC88, hG⟩ := f_bv hG
                refine iv_X8_273 F hS hP (c_X8_layMet l E N x78_2 σh78 _ hC88) ⟨Nat.le_of_ble_eq_true rfl, Nat.le_of_ble_eq_true rfl⟩ hl.1 (Nat.le_of_ble_eq_true rfl) dX8_pairs_88 ⟨Nat.zero_le _, Nat.zero_le _⟩ (fun H locs hP hS => ?_)
                refine lv_aload_n hx hb dX8_pairs_91 rfl (lv_at hl 0 rfl) ?_
                refine gf_X8_48 F hP dX8_pairs_92 ?_
                refine lv_iload_n hx hb dX8_pairs_95 rfl (lv_at hl 1 rfl) ?_
                refine lv_iconst (v := 0) hx hb dX8_pairs_96 (by decide) ?_
                obtain ⟨h97, hG⟩ := f_gd hG
                have i97 := f_fin h97
                refine x_iast F hS hP rfl rfl i97 dX8_pairs_97 (fun H locs hP hS => ?_)
                obtain ⟨σ97, e97⟩ : ∃ t : fS, t = sI σ88 74 (x78_2).toNatClampNeg (0 : Int32) := ⟨_, rfl⟩
                rw [← e97] at hP
                have hG := f_lt hG e97
                obtain ⟨σl98, hT98, hG⟩ := f_bv hG
                have T98 : ∀ (H : Heap) (locs : List Loc) (ls : Array Slot), f_h E σl98 H → va_S (f_A E) s.heap H locs → lv_has ls 4 [(0, .ref (E.2.1 61)), (2, .int x78_2)] → W p l e rm_X8_pairs s m args below meth c H locs 0 0 Q (F0 m 125 ls []) := by
                  intro H locs ls hP hS hl
                  refine lv_iinc (v := (x78_2 + (1 : Int32))) (lv' := [(2, .int (x78_2 + (1 : Int32))), (0, .ref (E.2.1 61))]) hx hb dX8_pairs_125 hl (k := 1) rfl (by rfl) (by decide) rfl (fun ls hl => ?_)
                  refine lv_goto (tgt := 78) hx hb dX8_pairs_128 (by decide) ?_
                  exact ih78 (x78_2 + (1 : Int32)) σl98 _ _ _ hP hS (lv_sub hl [1, 0] rfl) hG
                have L98 : ∀ (n98 : Nat) (σh98 : fS) (H : Heap) (locs : List Loc) (ls : Array Slot), f_h E σh98 H → va_S (f_A E) s.heap H locs → lv_has ls 4 [(0, .ref (E.2.1 61)), (2, .int x78_2)] → lp_X8_pairs_98 N x78_2 n98 σh98 = some σl98 → W p l e rm_X8_pairs s m args below meth c H locs 0 0 Q (F0 m 98 ls []) := by
                  intro n98
                  induction n98 with
                  | zero =>
                    intro σh98 H locs ls hP hS hl hG
                    rw [lp_X8_pairs_98] at hG
                    cases hG
                  | succ n98 ih98 =>
                    intro σh98 H locs ls hP hS hl hG
                    rw [lp_X8_pairs_98] at hG
                    refine lv_aload_n hx hb dX8_pairs_98 rfl (lv_at hl 0 rfl) ?_
                    refine lv_aload_n hx hb dX8_pairs_99 rfl (lv_at hl 0 rfl) ?_
                    refine gf_X8_48 F hP dX8_pairs_100 ?_
                    refine lv_iload_n hx hb dX8_pairs_103 rfl (lv_at hl 1 rfl) ?_
                    obtain ⟨h104, hG⟩ := f_gd hG
                    have i104 := f_fin h104
                    refine x_iald F hP rfl rfl i104 dX8_pairs_104 ?_
                    refine lv_iload_n hx hb dX8_pairs_105 rfl (lv_at hl 1 rfl) ?_
                    obtain ⟨r106, σ106, hC106, hG⟩ := f_bd hG
                    refine iv_X8_276 F hS hP (c_X8_isSame l E N (σh98.1 74 (x78_2).toNatClampNeg) x78_2 σh98 _ _ hC106) ⟨Nat.le_of_ble_eq_true rfl, Nat.le_of_ble_eq_true rfl⟩ hl.1 (Nat.le_of_ble_eq_true rfl) dX8_pairs_106 ⟨Nat.zero_le _, Nat.zero_le _⟩ (fun H locs hP hS => ?_)
                    refine lv_if_ne (tgt := 125) hx hb dX8_pairs_109 (by decide) (fun c109 => ?_) (fun c109 => ?_)
                    · have hG := f_in c109 hG
                      cases hG
                      exact T98 _ _ _ hP hS (lv_sub hl [0, 1] rfl)
                    · have hG := f_ip c109 hG
                      refine lv_aload_n hx hb dX8_pairs_112 rfl (lv_at hl 0 rfl) ?_
                      refine gf_X8_48 F hP dX8_pairs_113 ?_
                      refine lv_iload_n hx hb dX8_pairs_116 rfl (lv_at hl 1 rfl) ?_
                      refine lv_dup2_11 hx hb dX8_pairs_117 rfl rfl ?_
                      obtain ⟨h118, hG⟩ := f_gd hG
                      have i118 := f_fin h118
                      refine x_iald F hP rfl rfl i118 dX8_pairs_118 ?_
                      refine lv_iconst (v := 1) hx hb dX8_pairs_119 (by decide) ?_
                      refine lv_iadd hx hb dX8_pairs_120 ?_
                      obtain ⟨h121, hG⟩ := f_gd hG
                      have i121 := f_fin h121
                      refine x_iast F hS hP rfl rfl i121 dX8_pairs_121 (fun H locs hP hS => ?_)
                      obtain ⟨σ121, e121⟩ : ∃ t : fS, t = sI σ106 74 (x78_2).toNatClampNeg ((σ106.1 74 (x78_2).toNatClampNeg) + (1 : Int32)) := ⟨_, rfl⟩
                      rw [← e121] at hP
                      have hG := f_lt hG e121
                      refine lv_goto (tgt := 98) hx hb dX8_pairs_122 (by decide) ?_
                      exact ih98  σ121 _ _ _ hP hS (lv_sub hl [0, 1] rfl) hG
                exact L98 N  σ97 _ _ _ hP hS (lv_sub hl [0, 1] rfl) hT98
          exact L78 N (0 : Int32) σl40 _ _ _ hP hS (lv_sub hl [1, 0] rfl) hT78
        have L40 : ∀ (n40 : Nat) (x40_2 : Int32) (σh40 : fS) (H : Heap) (locs : List Loc) (ls : Array Slot), f_h E σh40 H → va_S (f_A E) s.heap H locs → lv_has ls 4 [(0, .ref (E.2.1 61)), (1, .int a1), (2, .int x40_2)] → lp_X8_pairs_40 N a1 n40 x40_2 σh40 = some σl40 → W p l e rm_X8_pairs s m args below meth c H locs 0 0 Q (F0 m 40 ls []) := by
          intro n40
          induction n40 with
          | zero =>
            intro x40_2 σh40 H locs ls hP hS hl hG
            rw [lp_X8_pairs_40] at hG
            cases hG
          | succ n40 ih40 =>
            intro x40_2 σh40 H locs ls hP hS hl hG
            rw [lp_X8_pairs_40] at hG
            refine lv_iconst (v := 3) hx hb dX8_pairs_40 (by decide) ?_
            refine lv_iload_n hx hb dX8_pairs_41 rfl (lv_at hl 2 rfl) ?_
            refine lv_imul hx hb dX8_pairs_42 ?_
            refine lv_iload_n hx hb dX8_pairs_43 rfl (lv_at hl 2 rfl) ?_
            refine lv_imul hx hb dX8_pairs_44 ?_
            refine lv_iload_n hx hb dX8_pairs_45 rfl (lv_at hl 1 rfl) ?_
            refine lv_icmp_gt (tgt := 76) hx hb dX8_pairs_46 (by decide) (fun c46 => ?_) (fun c46 => ?_)
            · have hG := f_ip c46 hG
              cases hG
              exact T40 _ _ _ hP hS (lv_sub hl [0] rfl)
            · have hG := f_in c46 hG
              refine lv_iconst (v := 1) hx hb dX8_pairs_49 (by decide) ?_
              refine lv_iload_n hx hb dX8_pairs_50 rfl (lv_at hl 2 rfl) ?_
              refine lv_isub hx hb dX8_pairs_51 ?_
              refine lv_topi (fun v52 e52 => ?_)
              have hG := f_lt hG e52
              refine lv_istore_n (lv' := [(3, .int v52), (0, .ref (E.2.1 61)), (1, .int a1), (2, .int x40_2)]) hx hb dX8_pairs_52 rfl hl (by decide) rfl (fun ls hl => ?_)
              obtain ⟨σl53, hT53, hG⟩ := f_bv hG
              have T53 : ∀ (H : Heap) (locs : List Loc) (ls : Array Slot), f_h E σl53 H → va_S (f_A E) s.heap H locs → lv_has ls 4 [(0, .ref (E.2.1 61)), (1, .int a1), (2, .int x40_2)] → W p l e rm_X8_pairs s m args below meth c H locs 0 0 Q (F0 m 70 ls []) := by
                intro H locs ls hP hS hl
                refine lv_iinc (v := (x40_2 + (1 : Int32))) (lv' := [(2, .int (x40_2 + (1 : Int32))), (0, .ref (E.2.1 61)), (1, .int a1)]) hx hb dX8_pairs_70 hl (k := 2) rfl (by rfl) (by decide) rfl (fun ls hl => ?_)
                refine lv_goto (tgt := 40) hx hb dX8_pairs_73 (by decide) ?_
                exact ih40 (x40_2 + (1 : Int32)) σl53 _ _ _ hP hS (lv_sub hl [1, 2, 0] rfl) hG
              have L53 : ∀ (n53 : Nat) (x53_3 : Int32) (σh53 : fS) (H : Heap) (locs : List Loc) (ls : Array Slot), f_h E σh53 H → va_S (f_A E) s.heap H locs → lv_has ls 4 [(0, .ref (E.2.1 61)), (1, .int a1), (2, .int x40_2), (3, .int x53_3)] → lp_X8_pairs_53 N a1 x40_2 n53 x53_3 σh53 = some σl53 → W p l e rm_X8_pairs s m args below meth c H locs 0 0 Q (F0 m 53 ls []) := by
                intro n53
                induction n53 with
                | zero =>
                  intro x53_3 σh53 H locs ls hP hS hl hG
                  rw [lp_X8_pairs_53] at hG
                  cases hG
                | succ n53 ih53 =>
                  intro x53_3 σh53 H locs ls hP hS hl hG
                  rw [lp_X8_pairs_53] at hG
                  refine lv_iload_n hx hb dX8_pairs_53 rfl (lv_at hl 3 rfl) ?_
                  refine lv_iload_n hx hb dX8_pairs_54 rfl (lv_at hl 2 rfl) ?_
                  refine lv_icmp_gt (tgt := 70) hx hb dX8_pairs_55 (by decide) (fun c55 => ?_) (fun c55 => ?_)
                  · have hG := f_ip c55 hG
                    cases hG
                    exact T53 _ _ _ hP hS (lv_sub hl [0, 1, 2] rfl)
                  · have hG := f_in c55 hG
                    refine lv_aload_n hx hb dX8_pairs_58 rfl (lv_at hl 0 rfl) ?_
                    refine lv_iload_n hx hb dX8_pairs_59 rfl (lv_at hl 2 rfl) ?_
                    refine lv_iload_n hx hb dX8_pairs_60 rfl (lv_at hl 3 rfl) ?_
                    obtain ⟨σ61, hC61, hG⟩ := f_bv hG
                    refine iv_X8_269 F hS hP (c_X8_addPair l E N x40_2 x53_3 σh53 _ hC61) ⟨Nat.le_of_ble_eq_true rfl, Nat.le_of_ble_eq_true rfl⟩ hl.1 (Nat.le_of_ble_eq_true rfl) dX8_pairs_61 ⟨Nat.zero_le _, Nat.zero_le _⟩ (fun H locs hP hS => ?_)
                    refine lv_iinc (v := (x53_3 + (1 : Int32))) (lv' := [(3, .int (x53_3 + (1 : Int32))), (0, .ref (E.2.1 61)), (1, .int a1), (2, .int x40_2)]) hx hb dX8_pairs_64 hl (k := 3) rfl (by rfl) (by decide) rfl (fun ls hl => ?_)
                    refine lv_goto (tgt := 53) hx hb dX8_pairs_67 (by decide) ?_
                    exact ih53 (x53_3 + (1 : Int32)) σ61 _ _ _ hP hS (lv_sub hl [1, 2, 3, 0] rfl) hG
              exact L53 N v52 σh40 _ _ _ hP hS (lv_sub hl [1, 2, 3, 0] rfl) hT53
        exact L40 N (1 : Int32) σ35 _ _ _ hP hS (lv_sub hl [1, 2, 0] rfl) hT40
      · have hG := f_ip c22 hG
        refine lv_bipush (v := -102) hx hb dX8_pairs_25 (by decide) ?_
        exact x_ri hR hS hP hG dX8_pairs_27
theorem dX8_isPair_0 : decode cX8_isPair 0 = .ok (.iload_n 1, 1) := by decide +kernel
theorem dX8_isPair_1 : decode cX8_isPair 1 = .ok (.iconst 0, 1) := by decide +kernel
theorem dX8_isPair_2 : decode cX8_isPair 2 = .ok (.aload_n 0, 1) := by decide +kernel
theorem dX8_isPair_3 : decode cX8_isPair 3 = .ok (.getfield 266, 3) := by decide +kernel
theorem dX8_isPair_6 : decode cX8_isPair 6 = .ok (.iconst 1, 1) := by decide +kernel
theorem dX8_isPair_7 : decode cX8_isPair 7 = .ok (.isub, 1) := by decide +kernel
theorem dX8_isPair_8 : decode cX8_isPair 8 = .ok (.invokestatic 89, 3) := by decide +kernel
theorem dX8_isPair_11 : decode cX8_isPair 11 = .ok (.ireturn, 1) := by decide +kernel
set_option maxHeartbeats 4000000 in
set_option maxRecDepth 100000 in
theorem c_X8_isPair (l : Launch) (E : fEv) (N : Nat) (a1 : Int32) (σ : fS) (r : Int32) (τ : fS) (hG : g_X8_isPair N a1 σ = some (r, τ)) : fM l E yX8_isPair (.code yX8_isPair cX8_isPair 2 (some .boolean)) rm_X8_isPair [.ref (E.2.1 61), .int a1] σ τ (some (.int r)) := by
  refine f_openZ (by decide) (Nat.le_of_ble_eq_true rfl) ?_
  intro p e s m below meth c args Q F hR hP ls hl
  have hx := F.1.1
  have hb := F.1.2.1
  have hown := F.1.2.2.2.1
  have hts := F.1.2.2.2.2
  have hS : va_S (f_A E) s.heap s.heap [] := va_S.rf
  skip
  have hl : lv_has ls 2 [(0, .ref (E.2.1 61)), (1, .int a1)] := hl
  unfold g_X8_isPair at hG
  refine lv_iload_n hx hb dX8_isPair_0 rfl (lv_at hl 1 rfl) ?_
  refine lv_iconst (v := 0) hx hb dX8_isPair_1 (by decide) ?_
  refine lv_aload_n hx hb dX8_isPair_2 rfl (lv_at hl 0 rfl) ?_
  refine gf_X8_266 F hP dX8_isPair_3 ?_
  refine lv_iconst (v := 1) hx hb dX8_isPair_6 (by decide) ?_
  refine lv_isub hx hb dX8_isPair_7 ?_
  obtain ⟨r8, σ8, hC8, hG⟩ := f_bd hG
  refine iv_X8_89 F hS hP (c_X8_within l E N a1 (0 : Int32) ((σ.1 61 14) - (1 : Int32)) σ _ _ hC8) ⟨Nat.le_of_ble_eq_true rfl, Nat.le_of_ble_eq_true rfl⟩ hl.1 (Nat.le_of_ble_eq_true rfl) dX8_isPair_8 ⟨Nat.zero_le _, Nat.zero_le _⟩ (fun H locs hP hS => ?_)
  obtain ⟨h11, hG⟩ := f_gd hG
  exact x_rz hR hS hP (f_isB h11) hG dX8_isPair_11
theorem dX8_pairNow_0 : decode cX8_pairNow 0 = .ok (.iload_n 2, 1) := by decide +kernel
theorem dX8_pairNow_1 : decode cX8_pairNow 1 = .ok (.tableswitch 59 0 3 #[31, 38, 45, 52], 31) := by decide +kernel
theorem dX8_pairNow_32 : decode cX8_pairNow 32 = .ok (.aload_n 0, 1) := by decide +kernel
theorem dX8_pairNow_33 : decode cX8_pairNow 33 = .ok (.getfield 39, 3) := by decide +kernel
theorem dX8_pairNow_36 : decode cX8_pairNow 36 = .ok (.iload_n 1, 1) := by decide +kernel
theorem dX8_pairNow_37 : decode cX8_pairNow 37 = .ok (.iaload, 1) := by decide +kernel
theorem dX8_pairNow_38 : decode cX8_pairNow 38 = .ok (.ireturn, 1) := by decide +kernel
theorem dX8_pairNow_39 : decode cX8_pairNow 39 = .ok (.aload_n 0, 1) := by decide +kernel
theorem dX8_pairNow_40 : decode cX8_pairNow 40 = .ok (.getfield 42, 3) := by decide +kernel
theorem dX8_pairNow_43 : decode cX8_pairNow 43 = .ok (.iload_n 1, 1) := by decide +kernel
theorem dX8_pairNow_44 : decode cX8_pairNow 44 = .ok (.iaload, 1) := by decide +kernel
theorem dX8_pairNow_45 : decode cX8_pairNow 45 = .ok (.ireturn, 1) := by decide +kernel
theorem dX8_pairNow_46 : decode cX8_pairNow 46 = .ok (.aload_n 0, 1) := by decide +kernel
theorem dX8_pairNow_47 : decode cX8_pairNow 47 = .ok (.getfield 45, 3) := by decide +kernel
theorem dX8_pairNow_50 : decode cX8_pairNow 50 = .ok (.iload_n 1, 1) := by decide +kernel
theorem dX8_pairNow_51 : decode cX8_pairNow 51 = .ok (.iaload, 1) := by decide +kernel
theorem dX8_pairNow_52 : decode cX8_pairNow 52 = .ok (.ireturn, 1) := by decide +kernel
theorem dX8_pairNow_53 : decode cX8_pairNow 53 = .ok (.aload_n 0, 1) := by decide +kernel
theorem dX8_pairNow_54 : decode cX8_pairNow 54 = .ok (.getfield 48, 3) := by decide +kernel
theorem dX8_pairNow_57 : decode cX8_pairNow 57 = .ok (.iload_n 1, 1) := by decide +kernel
theorem dX8_pairNow_58 : decode cX8_pairNow 58 = .ok (.iaload, 1) := by decide +kernel
theorem dX8_pairNow_59 : decode cX8_pairNow 59 = .ok (.ireturn, 1) := by decide +kernel
theorem dX8_pairNow_60 : decode cX8_pairNow 60 = .ok (.aload_n 0, 1) := by decide +kernel
theorem dX8_pairNow_61 : decode cX8_pairNow 61 = .ok (.getfield 51, 3) := by decide +kernel
theorem dX8_pairNow_64 : decode cX8_pairNow 64 = .ok (.iload_n 1, 1) := by decide +kernel
theorem dX8_pairNow_65 : decode cX8_pairNow 65 = .ok (.iaload, 1) := by decide +kernel
theorem dX8_pairNow_66 : decode cX8_pairNow 66 = .ok (.ireturn, 1) := by decide +kernel
set_option maxHeartbeats 4000000 in
set_option maxRecDepth 100000 in
theorem c_X8_pairNow (l : Launch) (E : fEv) (N : Nat) (a1 : Int32) (a2 : Int32) (σ : fS) (r : Int32) (τ : fS) (hG : g_X8_pairNow N a1 a2 σ = some (r, τ)) : fM l E yX8_pairNow (.code yX8_pairNow cX8_pairNow 3 (some .int)) rm_X8_pairNow [.ref (E.2.1 61), .int a1, .int a2] σ τ (some (.int r)) := by
  refine f_openI (by decide) (Nat.le_of_ble_eq_true rfl) ?_
  intro p e s m below meth c args Q F hR hP ls hl
  have hx := F.1.1
  have hb := F.1.2.1
  have hown := F.1.2.2.2.1
  have hts := F.1.2.2.2.2
  have hS : va_S (f_A E) s.heap s.heap [] := va_S.rf
  skip
  have hl : lv_has ls 3 [(0, .ref (E.2.1 61)), (1, .int a1), (2, .int a2)] := hl
  unfold g_X8_pairNow at hG
  refine lv_iload_n hx hb dX8_pairNow_0 rfl (lv_at hl 2 rfl) ?_
  by_cases c1_0 : a2 = 0
  · have hG := f_ip c1_0 hG
    refine lv_tableIn (off := 31) (tgt := 32) hx hb dX8_pairNow_1 (by rw [c1_0]; decide) (by rw [c1_0]; decide) (by rw [c1_0]; rfl) (by decide) ?_
    refine lv_aload_n hx hb dX8_pairNow_32 rfl (lv_at hl 0 rfl) ?_
    refine gf_X8_39 F hP dX8_pairNow_33 ?_
    refine lv_iload_n hx hb dX8_pairNow_36 rfl (lv_at hl 1 rfl) ?_
    obtain ⟨h37, hG⟩ := f_gd hG
    have i37 := f_fin h37
    refine x_iald F hP rfl rfl i37 dX8_pairNow_37 ?_
    exact x_ri hR hS hP hG dX8_pairNow_38
  · have hG := f_in c1_0 hG
    by_cases c1_1 : a2 = 1
    · have hG := f_ip c1_1 hG
      refine lv_tableIn (off := 38) (tgt := 39) hx hb dX8_pairNow_1 (by rw [c1_1]; decide) (by rw [c1_1]; decide) (by rw [c1_1]; rfl) (by decide) ?_
      refine lv_aload_n hx hb dX8_pairNow_39 rfl (lv_at hl 0 rfl) ?_
      refine gf_X8_42 F hP dX8_pairNow_40 ?_
      refine lv_iload_n hx hb dX8_pairNow_43 rfl (lv_at hl 1 rfl) ?_
      obtain ⟨h44, hG⟩ := f_gd hG
      have i44 := f_fin h44
      refine x_iald F hP rfl rfl i44 dX8_pairNow_44 ?_
      exact x_ri hR hS hP hG dX8_pairNow_45
    · have hG := f_in c1_1 hG
      by_cases c1_2 : a2 = 2
      · have hG := f_ip c1_2 hG
        refine lv_tableIn (off := 45) (tgt := 46) hx hb dX8_pairNow_1 (by rw [c1_2]; decide) (by rw [c1_2]; decide) (by rw [c1_2]; rfl) (by decide) ?_
        refine lv_aload_n hx hb dX8_pairNow_46 rfl (lv_at hl 0 rfl) ?_
        refine gf_X8_45 F hP dX8_pairNow_47 ?_
        refine lv_iload_n hx hb dX8_pairNow_50 rfl (lv_at hl 1 rfl) ?_
        obtain ⟨h51, hG⟩ := f_gd hG
        have i51 := f_fin h51
        refine x_iald F hP rfl rfl i51 dX8_pairNow_51 ?_
        exact x_ri hR hS hP hG dX8_pairNow_52
      · have hG := f_in c1_2 hG
        by_cases c1_3 : a2 = 3
        · have hG := f_ip c1_3 hG
          refine lv_tableIn (off := 52) (tgt := 53) hx hb dX8_pairNow_1 (by rw [c1_3]; decide) (by rw [c1_3]; decide) (by rw [c1_3]; rfl) (by decide) ?_
          refine lv_aload_n hx hb dX8_pairNow_53 rfl (lv_at hl 0 rfl) ?_
          refine gf_X8_48 F hP dX8_pairNow_54 ?_
          refine lv_iload_n hx hb dX8_pairNow_57 rfl (lv_at hl 1 rfl) ?_
          obtain ⟨h58, hG⟩ := f_gd hG
          have i58 := f_fin h58
          refine x_iald F hP rfl rfl i58 dX8_pairNow_58 ?_
          exact x_ri hR hS hP hG dX8_pairNow_59
        · have hG := f_in c1_3 hG
          have n1_0 := lv_neT c1_0 (show (0 : Int32).toInt = 0 from rfl)
          have n1_1 := lv_neT c1_1 (show (1 : Int32).toInt = 1 from rfl)
          have n1_2 := lv_neT c1_2 (show (2 : Int32).toInt = 2 from rfl)
          have n1_3 := lv_neT c1_3 (show (3 : Int32).toInt = 3 from rfl)
          refine lv_tableOut (tgt := 60) hx hb dX8_pairNow_1 (by omega) (by decide) ?_
          refine lv_aload_n hx hb dX8_pairNow_60 rfl (lv_at hl 0 rfl) ?_
          refine gf_X8_51 F hP dX8_pairNow_61 ?_
          refine lv_iload_n hx hb dX8_pairNow_64 rfl (lv_at hl 1 rfl) ?_
          obtain ⟨h65, hG⟩ := f_gd hG
          have i65 := f_fin h65
          refine x_iald F hP rfl rfl i65 dX8_pairNow_65 ?_
          exact x_ri hR hS hP hG dX8_pairNow_66
