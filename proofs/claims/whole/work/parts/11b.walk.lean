theorem dX2_isNumber_0 : decode cX2_isNumber 0 = .ok (.iload_n 0, 1) := by decide +kernel
theorem dX2_isNumber_1 : decode cX2_isNumber 1 = .ok (.bipush (-99), 2) := by decide +kernel
theorem dX2_isNumber_3 : decode cX2_isNumber 3 = .ok (.if_icmp .lt 21, 3) := by decide +kernel
theorem dX2_isNumber_6 : decode cX2_isNumber 6 = .ok (.iload_n 0, 1) := by decide +kernel
theorem dX2_isNumber_7 : decode cX2_isNumber 7 = .ok (.bipush 99, 2) := by decide +kernel
theorem dX2_isNumber_9 : decode cX2_isNumber 9 = .ok (.if_icmp .gt 15, 3) := by decide +kernel
theorem dX2_isNumber_12 : decode cX2_isNumber 12 = .ok (.iload_n 0, 1) := by decide +kernel
theorem dX2_isNumber_13 : decode cX2_isNumber 13 = .ok (.invokestatic 21, 3) := by decide +kernel
theorem dX2_isNumber_16 : decode cX2_isNumber 16 = .ok (.iconst 1, 1) := by decide +kernel
theorem dX2_isNumber_17 : decode cX2_isNumber 17 = .ok (.if_icmp .ne 7, 3) := by decide +kernel
theorem dX2_isNumber_20 : decode cX2_isNumber 20 = .ok (.iconst 1, 1) := by decide +kernel
theorem dX2_isNumber_21 : decode cX2_isNumber 21 = .ok (.goto 4, 3) := by decide +kernel
theorem dX2_isNumber_24 : decode cX2_isNumber 24 = .ok (.iconst 0, 1) := by decide +kernel
theorem dX2_isNumber_25 : decode cX2_isNumber 25 = .ok (.ireturn, 1) := by decide +kernel
set_option maxHeartbeats 4000000 in
set_option maxRecDepth 100000 in
theorem c_X2_isNumber (l : Launch) (E : fEv) (N : Nat) (a0 : Int32) (σ : fS) (r : Int32) (τ : fS) (hG : g_X2_isNumber N a0 σ = some (r, τ)) : fM l E yX2_isNumber (.code yX2_isNumber cX2_isNumber 1 (some .boolean)) rm_X2_isNumber [.int a0] σ τ (some (.int r)) := by
  refine f_openZ (by decide) (Nat.le_of_ble_eq_true rfl) ?_
  intro p e s m below meth c args Q F hR hP ls hl
  have hx := F.1.1
  have hb := F.1.2.1
  have hown := F.1.2.2.2.1
  have hts := F.1.2.2.2.2
  have hS : va_S (f_A E) s.heap s.heap [] := va_S.rf
  skip
  have hl : lv_has ls 1 [(0, .int a0)] := hl
  unfold g_X2_isNumber at hG
  refine lv_iload_n hx hb dX2_isNumber_0 rfl (lv_at hl 0 rfl) ?_
  refine lv_bipush (v := -99) hx hb dX2_isNumber_1 (by decide) ?_
  refine lv_icmp_lt (tgt := 24) hx hb dX2_isNumber_3 (by decide) (fun c3 => ?_) (fun c3 => ?_)
  · have hG := f_ip c3 hG
    refine lv_iconst (v := 0) hx hb dX2_isNumber_24 (by decide) ?_
    exact x_rz hR hS hP (Or.inl rfl) hG dX2_isNumber_25
  · have hG := f_in c3 hG
    refine lv_iload_n hx hb dX2_isNumber_6 rfl (lv_at hl 0 rfl) ?_
    refine lv_bipush (v := 99) hx hb dX2_isNumber_7 (by decide) ?_
    refine lv_icmp_gt (tgt := 24) hx hb dX2_isNumber_9 (by decide) (fun c9 => ?_) (fun c9 => ?_)
    · have hG := f_ip c9 hG
      refine lv_iconst (v := 0) hx hb dX2_isNumber_24 (by decide) ?_
      exact x_rz hR hS hP (Or.inl rfl) hG dX2_isNumber_25
    · have hG := f_in c9 hG
      refine lv_iload_n hx hb dX2_isNumber_12 rfl (lv_at hl 0 rfl) ?_
      obtain ⟨r13, σ13, hC13, hG⟩ := f_bd hG
      refine iv_X2_21 F hS hP (c_X2_roughPart l E N a0 σ _ _ hC13) ⟨Nat.le_of_ble_eq_true rfl, Nat.le_of_ble_eq_true rfl⟩ hl.1 (Nat.le_of_ble_eq_true rfl) dX2_isNumber_13 ⟨Nat.zero_le _, Nat.zero_le _⟩ (fun H locs hP hS => ?_)
      refine lv_iconst (v := 1) hx hb dX2_isNumber_16 (by decide) ?_
      refine lv_icmp_ne (tgt := 24) hx hb dX2_isNumber_17 (by decide) (fun c17 => ?_) (fun c17 => ?_)
      · have hG := f_in c17 hG
        refine lv_iconst (v := 0) hx hb dX2_isNumber_24 (by decide) ?_
        exact x_rz hR hS hP (Or.inl rfl) hG dX2_isNumber_25
      · have hG := f_ip c17 hG
        refine lv_iconst (v := 1) hx hb dX2_isNumber_20 (by decide) ?_
        refine lv_goto (tgt := 25) hx hb dX2_isNumber_21 (by decide) ?_
        exact x_rz hR hS hP (Or.inr rfl) hG dX2_isNumber_25
theorem dX2_isSquareTimesCore_0 : decode cX2_isSquareTimesCore 0 = .ok (.iload_n 0, 1) := by decide +kernel
theorem dX2_isSquareTimesCore_1 : decode cX2_isSquareTimesCore 1 = .ok (.invokestatic 21, 3) := by decide +kernel
theorem dX2_isSquareTimesCore_4 : decode cX2_isSquareTimesCore 4 = .ok (.istore_n 1, 1) := by decide +kernel
theorem dX2_isSquareTimesCore_5 : decode cX2_isSquareTimesCore 5 = .ok (.iload_n 1, 1) := by decide +kernel
theorem dX2_isSquareTimesCore_6 : decode cX2_isSquareTimesCore 6 = .ok (.invokestatic 24, 3) := by decide +kernel
theorem dX2_isSquareTimesCore_9 : decode cX2_isSquareTimesCore 9 = .ok (.istore_n 2, 1) := by decide +kernel
theorem dX2_isSquareTimesCore_10 : decode cX2_isSquareTimesCore 10 = .ok (.iload_n 2, 1) := by decide +kernel
theorem dX2_isSquareTimesCore_11 : decode cX2_isSquareTimesCore 11 = .ok (.iload_n 2, 1) := by decide +kernel
theorem dX2_isSquareTimesCore_12 : decode cX2_isSquareTimesCore 12 = .ok (.imul, 1) := by decide +kernel
theorem dX2_isSquareTimesCore_13 : decode cX2_isSquareTimesCore 13 = .ok (.iload_n 1, 1) := by decide +kernel
theorem dX2_isSquareTimesCore_14 : decode cX2_isSquareTimesCore 14 = .ok (.if_icmp .ne 7, 3) := by decide +kernel
theorem dX2_isSquareTimesCore_17 : decode cX2_isSquareTimesCore 17 = .ok (.iconst 1, 1) := by decide +kernel
theorem dX2_isSquareTimesCore_18 : decode cX2_isSquareTimesCore 18 = .ok (.goto 4, 3) := by decide +kernel
theorem dX2_isSquareTimesCore_21 : decode cX2_isSquareTimesCore 21 = .ok (.iconst 0, 1) := by decide +kernel
theorem dX2_isSquareTimesCore_22 : decode cX2_isSquareTimesCore 22 = .ok (.ireturn, 1) := by decide +kernel
set_option maxHeartbeats 4000000 in
set_option maxRecDepth 100000 in
theorem c_X2_isSquareTimesCore (l : Launch) (E : fEv) (N : Nat) (a0 : Int32) (σ : fS) (r : Int32) (τ : fS) (hG : g_X2_isSquareTimesCore N a0 σ = some (r, τ)) : fM l E yX2_isSquareTimesCore (.code yX2_isSquareTimesCore cX2_isSquareTimesCore 3 (some .boolean)) rm_X2_isSquareTimesCore [.int a0] σ τ (some (.int r)) := by
  refine f_openZ (by decide) (Nat.le_of_ble_eq_true rfl) ?_
  intro p e s m below meth c args Q F hR hP ls hl
  have hx := F.1.1
  have hb := F.1.2.1
  have hown := F.1.2.2.2.1
  have hts := F.1.2.2.2.2
  have hS : va_S (f_A E) s.heap s.heap [] := va_S.rf
  skip
  have hl : lv_has ls 3 [(0, .int a0)] := hl
  unfold g_X2_isSquareTimesCore at hG
  refine lv_iload_n hx hb dX2_isSquareTimesCore_0 rfl (lv_at hl 0 rfl) ?_
  obtain ⟨r1, σ1, hC1, hG⟩ := f_bd hG
  refine iv_X2_21 F hS hP (c_X2_roughPart l E N a0 σ _ _ hC1) ⟨Nat.le_of_ble_eq_true rfl, Nat.le_of_ble_eq_true rfl⟩ hl.1 (Nat.le_of_ble_eq_true rfl) dX2_isSquareTimesCore_1 ⟨Nat.zero_le _, Nat.zero_le _⟩ (fun H locs hP hS => ?_)
  refine lv_istore_n (lv' := [(1, .int r1), (0, .int a0)]) hx hb dX2_isSquareTimesCore_4 rfl hl (by decide) rfl (fun ls hl => ?_)
  refine lv_iload_n hx hb dX2_isSquareTimesCore_5 rfl (lv_at hl 0 rfl) ?_
  obtain ⟨r6, σ6, hC6, hG⟩ := f_bd hG
  refine iv_X2_24 F hS hP (c_X2_rootOf l E N r1 σ1 _ _ hC6) ⟨Nat.le_of_ble_eq_true rfl, Nat.le_of_ble_eq_true rfl⟩ hl.1 (Nat.le_of_ble_eq_true rfl) dX2_isSquareTimesCore_6 ⟨Nat.zero_le _, Nat.zero_le _⟩ (fun H locs hP hS => ?_)
  refine lv_istore_n (lv' := [(2, .int r6), (1, .int r1), (0, .int a0)]) hx hb dX2_isSquareTimesCore_9 rfl hl (by decide) rfl (fun ls hl => ?_)
  refine lv_iload_n hx hb dX2_isSquareTimesCore_10 rfl (lv_at hl 0 rfl) ?_
  refine lv_iload_n hx hb dX2_isSquareTimesCore_11 rfl (lv_at hl 0 rfl) ?_
  refine lv_imul hx hb dX2_isSquareTimesCore_12 ?_
  refine lv_iload_n hx hb dX2_isSquareTimesCore_13 rfl (lv_at hl 1 rfl) ?_
  refine lv_icmp_ne (tgt := 21) hx hb dX2_isSquareTimesCore_14 (by decide) (fun c14 => ?_) (fun c14 => ?_)
  · have hG := f_in c14 hG
    refine lv_iconst (v := 0) hx hb dX2_isSquareTimesCore_21 (by decide) ?_
    exact x_rz hR hS hP (Or.inl rfl) hG dX2_isSquareTimesCore_22
  · have hG := f_ip c14 hG
    refine lv_iconst (v := 1) hx hb dX2_isSquareTimesCore_17 (by decide) ?_
    refine lv_goto (tgt := 22) hx hb dX2_isSquareTimesCore_18 (by decide) ?_
    exact x_rz hR hS hP (Or.inr rfl) hG dX2_isSquareTimesCore_22
theorem dX2_commonPart_0 : decode cX2_commonPart 0 = .ok (.iload_n 0, 1) := by decide +kernel
theorem dX2_commonPart_1 : decode cX2_commonPart 1 = .ok (.invokestatic 15, 3) := by decide +kernel
theorem dX2_commonPart_4 : decode cX2_commonPart 4 = .ok (.istore_n 2, 1) := by decide +kernel
theorem dX2_commonPart_5 : decode cX2_commonPart 5 = .ok (.iload_n 1, 1) := by decide +kernel
theorem dX2_commonPart_6 : decode cX2_commonPart 6 = .ok (.invokestatic 15, 3) := by decide +kernel
theorem dX2_commonPart_9 : decode cX2_commonPart 9 = .ok (.istore_n 3, 1) := by decide +kernel
theorem dX2_commonPart_10 : decode cX2_commonPart 10 = .ok (.iconst 0, 1) := by decide +kernel
theorem dX2_commonPart_11 : decode cX2_commonPart 11 = .ok (.istore 4, 2) := by decide +kernel
theorem dX2_commonPart_13 : decode cX2_commonPart 13 = .ok (.iload 4, 2) := by decide +kernel
theorem dX2_commonPart_15 : decode cX2_commonPart 15 = .ok (.bipush 64, 2) := by decide +kernel
theorem dX2_commonPart_17 : decode cX2_commonPart 17 = .ok (.if_icmp .ge 23, 3) := by decide +kernel
theorem dX2_commonPart_20 : decode cX2_commonPart 20 = .ok (.iload_n 3, 1) := by decide +kernel
theorem dX2_commonPart_21 : decode cX2_commonPart 21 = .ok (.ifCond .eq 19, 3) := by decide +kernel
theorem dX2_commonPart_24 : decode cX2_commonPart 24 = .ok (.iload_n 2, 1) := by decide +kernel
theorem dX2_commonPart_25 : decode cX2_commonPart 25 = .ok (.iload_n 3, 1) := by decide +kernel
theorem dX2_commonPart_26 : decode cX2_commonPart 26 = .ok (.irem, 1) := by decide +kernel
theorem dX2_commonPart_27 : decode cX2_commonPart 27 = .ok (.istore 5, 2) := by decide +kernel
theorem dX2_commonPart_29 : decode cX2_commonPart 29 = .ok (.iload_n 3, 1) := by decide +kernel
theorem dX2_commonPart_30 : decode cX2_commonPart 30 = .ok (.istore_n 2, 1) := by decide +kernel
theorem dX2_commonPart_31 : decode cX2_commonPart 31 = .ok (.iload 5, 2) := by decide +kernel
theorem dX2_commonPart_33 : decode cX2_commonPart 33 = .ok (.istore_n 3, 1) := by decide +kernel
theorem dX2_commonPart_34 : decode cX2_commonPart 34 = .ok (.iinc 4 1, 3) := by decide +kernel
theorem dX2_commonPart_37 : decode cX2_commonPart 37 = .ok (.goto (-24), 3) := by decide +kernel
theorem dX2_commonPart_40 : decode cX2_commonPart 40 = .ok (.iload_n 2, 1) := by decide +kernel
theorem dX2_commonPart_41 : decode cX2_commonPart 41 = .ok (.ireturn, 1) := by decide +kernel
set_option maxHeartbeats 4000000 in
set_option maxRecDepth 100000 in
theorem c_X2_commonPart (l : Launch) (E : fEv) (N : Nat) (a0 : Int32) (a1 : Int32) (σ : fS) (r : Int32) (τ : fS) (hG : g_X2_commonPart N a0 a1 σ = some (r, τ)) : fM l E yX2_commonPart (.code yX2_commonPart cX2_commonPart 6 (some .int)) rm_X2_commonPart [.int a0, .int a1] σ τ (some (.int r)) := by
  refine f_openI (by decide) (Nat.le_of_ble_eq_true rfl) ?_
  intro p e s m below meth c args Q F hR hP ls hl
  have hx := F.1.1
  have hb := F.1.2.1
  have hown := F.1.2.2.2.1
  have hts := F.1.2.2.2.2
  have hS : va_S (f_A E) s.heap s.heap [] := va_S.rf
  skip
  have hl : lv_has ls 6 [(0, .int a0), (1, .int a1)] := hl
  unfold g_X2_commonPart at hG
  refine lv_iload_n hx hb dX2_commonPart_0 rfl (lv_at hl 0 rfl) ?_
  obtain ⟨r1, σ1, hC1, hG⟩ := f_bd hG
  refine iv_X2_15 F hS hP (c_J9_abs_0f7a4 l E N a0 σ _ _ hC1) ⟨Nat.le_of_ble_eq_true rfl, Nat.le_of_ble_eq_true rfl⟩ hl.1 (Nat.le_of_ble_eq_true rfl) dX2_commonPart_1 ⟨Nat.zero_le _, Nat.zero_le _⟩ (fun H locs hP hS => ?_)
  refine lv_istore_n (lv' := [(2, .int r1), (0, .int a0), (1, .int a1)]) hx hb dX2_commonPart_4 rfl hl (by decide) rfl (fun ls hl => ?_)
  refine lv_iload_n hx hb dX2_commonPart_5 rfl (lv_at hl 2 rfl) ?_
  obtain ⟨r6, σ6, hC6, hG⟩ := f_bd hG
  refine iv_X2_15 F hS hP (c_J9_abs_0f7a4 l E N a1 σ1 _ _ hC6) ⟨Nat.le_of_ble_eq_true rfl, Nat.le_of_ble_eq_true rfl⟩ hl.1 (Nat.le_of_ble_eq_true rfl) dX2_commonPart_6 ⟨Nat.zero_le _, Nat.zero_le _⟩ (fun H locs hP hS => ?_)
  refine lv_istore_n (lv' := [(3, .int r6), (2, .int r1), (0, .int a0), (1, .int a1)]) hx hb dX2_commonPart_9 rfl hl (by decide) rfl (fun ls hl => ?_)
  refine lv_iconst (v := 0) hx hb dX2_commonPart_10 (by decide) ?_
  refine lv_istore (lv' := [(4, .int (0 : Int32)), (3, .int r6), (2, .int r1), (0, .int a0), (1, .int a1)]) hx hb dX2_commonPart_11 hl (by decide) rfl (fun ls hl => ?_)
  obtain ⟨o13, σl13, hT13, hG⟩ := f_bd hG
  have T13 : ∀ (H : Heap) (locs : List Loc) (ls : Array Slot), f_h E σl13 H → va_S (f_A E) s.heap H locs → lv_has ls 6 [(2, .int o13)] → W p l e rm_X2_commonPart s m args below meth c H locs 0 0 Q (F0 m 40 ls []) := by
    intro H locs ls hP hS hl
    refine lv_iload_n hx hb dX2_commonPart_40 rfl (lv_at hl 0 rfl) ?_
    exact x_ri hR hS hP hG dX2_commonPart_41
  have L13 : ∀ (n13 : Nat) (x13_2 : Int32) (x13_3 : Int32) (x13_4 : Int32) (σh13 : fS) (H : Heap) (locs : List Loc) (ls : Array Slot), f_h E σh13 H → va_S (f_A E) s.heap H locs → lv_has ls 6 [(2, .int x13_2), (3, .int x13_3), (4, .int x13_4)] → lp_X2_commonPart_13 N n13 x13_2 x13_3 x13_4 σh13 = some (o13, σl13) → W p l e rm_X2_commonPart s m args below meth c H locs 0 0 Q (F0 m 13 ls []) := by
    intro n13
    induction n13 with
    | zero =>
      intro x13_2 x13_3 x13_4 σh13 H locs ls hP hS hl hG
      rw [lp_X2_commonPart_13] at hG
      cases hG
    | succ n13 ih13 =>
      intro x13_2 x13_3 x13_4 σh13 H locs ls hP hS hl hG
      rw [lp_X2_commonPart_13] at hG
      refine lv_iload hx hb dX2_commonPart_13 (lv_at hl 2 rfl) ?_
      refine lv_bipush (v := 64) hx hb dX2_commonPart_15 (by decide) ?_
      refine lv_icmp_ge (tgt := 40) hx hb dX2_commonPart_17 (by decide) (fun c17 => ?_) (fun c17 => ?_)
      · have hG := f_ip c17 hG
        cases hG
        exact T13 _ _ _ hP hS (lv_sub hl [0] rfl)
      · have hG := f_in c17 hG
        refine lv_iload_n hx hb dX2_commonPart_20 rfl (lv_at hl 1 rfl) ?_
        refine lv_if_eq (tgt := 40) hx hb dX2_commonPart_21 (by decide) (fun c21 => ?_) (fun c21 => ?_)
        · have hG := f_ip c21 hG
          cases hG
          exact T13 _ _ _ hP hS (lv_sub hl [0] rfl)
        · have hG := f_in c21 hG
          refine lv_iload_n hx hb dX2_commonPart_24 rfl (lv_at hl 0 rfl) ?_
          refine lv_iload_n hx hb dX2_commonPart_25 rfl (lv_at hl 1 rfl) ?_
          obtain ⟨h26, hG⟩ := f_gd hG
          refine x_irem F dX2_commonPart_26 (f_nz h26) ?_
          refine lv_topi (fun v27 e27 => ?_)
          have hG := f_lt hG e27
          refine lv_istore (lv' := [(5, .int v27), (2, .int x13_2), (3, .int x13_3), (4, .int x13_4)]) hx hb dX2_commonPart_27 hl (by decide) rfl (fun ls hl => ?_)
          refine lv_iload_n hx hb dX2_commonPart_29 rfl (lv_at hl 2 rfl) ?_
          refine lv_istore_n (lv' := [(2, .int x13_3), (5, .int v27), (3, .int x13_3), (4, .int x13_4)]) hx hb dX2_commonPart_30 rfl hl (by decide) rfl (fun ls hl => ?_)
          refine lv_iload hx hb dX2_commonPart_31 (lv_at hl 1 rfl) ?_
          refine lv_istore_n (lv' := [(3, .int v27), (2, .int x13_3), (5, .int v27), (4, .int x13_4)]) hx hb dX2_commonPart_33 rfl hl (by decide) rfl (fun ls hl => ?_)
          refine lv_iinc (v := (x13_4 + (1 : Int32))) (lv' := [(4, .int (x13_4 + (1 : Int32))), (3, .int v27), (2, .int x13_3), (5, .int v27)]) hx hb dX2_commonPart_34 hl (k := 3) rfl (by rfl) (by decide) rfl (fun ls hl => ?_)
          refine lv_goto (tgt := 13) hx hb dX2_commonPart_37 (by decide) ?_
          exact ih13 x13_3 v27 (x13_4 + (1 : Int32)) σh13 _ _ _ hP hS (lv_sub hl [2, 1, 0] rfl) hG
  exact L13 N r1 r6 (0 : Int32) σ6 _ _ _ hP hS (lv_sub hl [2, 1, 0] rfl) hT13
theorem dX3_write_0 : decode cX3_write 0 = .ok (.aload_n 0, 1) := by decide +kernel
theorem dX3_write_1 : decode cX3_write 1 = .ok (.getfield 15, 3) := by decide +kernel
theorem dX3_write_4 : decode cX3_write 4 = .ok (.ifCond .lt 12, 3) := by decide +kernel
theorem dX3_write_7 : decode cX3_write 7 = .ok (.aload_n 0, 1) := by decide +kernel
theorem dX3_write_8 : decode cX3_write 8 = .ok (.getfield 15, 3) := by decide +kernel
theorem dX3_write_11 : decode cX3_write 11 = .ok (.bipush 18, 2) := by decide +kernel
theorem dX3_write_13 : decode cX3_write 13 = .ok (.if_icmp .lt 5, 3) := by decide +kernel
theorem dX3_write_16 : decode cX3_write 16 = .ok (.iconst 0, 1) := by decide +kernel
theorem dX3_write_17 : decode cX3_write 17 = .ok (.ireturn, 1) := by decide +kernel
theorem dX3_write_18 : decode cX3_write 18 = .ok (.aload_n 0, 1) := by decide +kernel
theorem dX3_write_19 : decode cX3_write 19 = .ok (.getfield 11, 3) := by decide +kernel
theorem dX3_write_22 : decode cX3_write 22 = .ok (.aload_n 0, 1) := by decide +kernel
theorem dX3_write_23 : decode cX3_write 23 = .ok (.getfield 15, 3) := by decide +kernel
theorem dX3_write_26 : decode cX3_write 26 = .ok (.iload_n 1, 1) := by decide +kernel
theorem dX3_write_27 : decode cX3_write 27 = .ok (.iastore, 1) := by decide +kernel
theorem dX3_write_28 : decode cX3_write 28 = .ok (.aload_n 0, 1) := by decide +kernel
theorem dX3_write_29 : decode cX3_write 29 = .ok (.dup, 1) := by decide +kernel
theorem dX3_write_30 : decode cX3_write 30 = .ok (.getfield 15, 3) := by decide +kernel
theorem dX3_write_33 : decode cX3_write 33 = .ok (.iconst 1, 1) := by decide +kernel
theorem dX3_write_34 : decode cX3_write 34 = .ok (.iadd, 1) := by decide +kernel
theorem dX3_write_35 : decode cX3_write 35 = .ok (.putfield 15, 3) := by decide +kernel
theorem dX3_write_38 : decode cX3_write 38 = .ok (.iconst 1, 1) := by decide +kernel
theorem dX3_write_39 : decode cX3_write 39 = .ok (.ireturn, 1) := by decide +kernel
set_option maxHeartbeats 4000000 in
set_option maxRecDepth 100000 in
theorem c_X3_write (l : Launch) (E : fEv) (N : Nat) (a1 : Int32) (σ : fS) (r : Int32) (τ : fS) (hG : g_X3_write N a1 σ = some (r, τ)) : fM l E yX3_write (.code yX3_write cX3_write 2 (some .boolean)) rm_X3_write [.ref (E.2.1 1), .int a1] σ τ (some (.int r)) := by
  refine f_openZ (by decide) (Nat.le_of_ble_eq_true rfl) ?_
  intro p e s m below meth c args Q F hR hP ls hl
  have hx := F.1.1
  have hb := F.1.2.1
  have hown := F.1.2.2.2.1
  have hts := F.1.2.2.2.2
  have hS : va_S (f_A E) s.heap s.heap [] := va_S.rf
  skip
  have hl : lv_has ls 2 [(0, .ref (E.2.1 1)), (1, .int a1)] := hl
  unfold g_X3_write at hG
  refine lv_aload_n hx hb dX3_write_0 rfl (lv_at hl 0 rfl) ?_
  refine gf_X3_15 F hP dX3_write_1 ?_
  refine lv_if_lt (tgt := 16) hx hb dX3_write_4 (by decide) (fun c4 => ?_) (fun c4 => ?_)
  · have hG := f_ip c4 hG
    refine lv_iconst (v := 0) hx hb dX3_write_16 (by decide) ?_
    exact x_rz hR hS hP (Or.inl rfl) hG dX3_write_17
  · have hG := f_in c4 hG
    refine lv_aload_n hx hb dX3_write_7 rfl (lv_at hl 0 rfl) ?_
    refine gf_X3_15 F hP dX3_write_8 ?_
    refine lv_bipush (v := 18) hx hb dX3_write_11 (by decide) ?_
    refine lv_icmp_lt (tgt := 18) hx hb dX3_write_13 (by decide) (fun c13 => ?_) (fun c13 => ?_)
    · have hG := f_ip c13 hG
      refine lv_aload_n hx hb dX3_write_18 rfl (lv_at hl 0 rfl) ?_
      refine gf_X3_11 F hP dX3_write_19 ?_
      refine lv_aload_n hx hb dX3_write_22 rfl (lv_at hl 0 rfl) ?_
      refine gf_X3_15 F hP dX3_write_23 ?_
      refine lv_iload_n hx hb dX3_write_26 rfl (lv_at hl 1 rfl) ?_
      obtain ⟨h27, hG⟩ := f_gd hG
      have i27 := f_fin h27
      refine x_iast F hS hP rfl rfl i27 dX3_write_27 (fun H locs hP hS => ?_)
      obtain ⟨σ27, e27⟩ : ∃ t : fS, t = sI σ 2 ((σ.1 1 1)).toNatClampNeg a1 := ⟨_, rfl⟩
      rw [← e27] at hP
      have hG := f_lt hG e27
      refine lv_aload_n hx hb dX3_write_28 rfl (lv_at hl 0 rfl) ?_
      refine lv_dup hx hb dX3_write_29 rfl ?_
      refine gf_X3_15 F hP dX3_write_30 ?_
      refine lv_iconst (v := 1) hx hb dX3_write_33 (by decide) ?_
      refine lv_iadd hx hb dX3_write_34 ?_
      refine pf_X3_15 F hS hP dX3_write_35 (fun H locs hP hS => ?_)
      obtain ⟨σ35, e35⟩ : ∃ t : fS, t = sI σ27 1 1 ((σ27.1 1 1) + (1 : Int32)) := ⟨_, rfl⟩
      rw [← e35] at hP
      have hG := f_lt hG e35
      refine lv_iconst (v := 1) hx hb dX3_write_38 (by decide) ?_
      exact x_rz hR hS hP (Or.inr rfl) hG dX3_write_39
    · have hG := f_in c13 hG
      refine lv_iconst (v := 0) hx hb dX3_write_16 (by decide) ?_
      exact x_rz hR hS hP (Or.inl rfl) hG dX3_write_17
theorem dX3_codeAt_0 : decode cX3_codeAt 0 = .ok (.iload_n 1, 1) := by decide +kernel
theorem dX3_codeAt_1 : decode cX3_codeAt 1 = .ok (.ifCond .lt 26, 3) := by decide +kernel
theorem dX3_codeAt_4 : decode cX3_codeAt 4 = .ok (.iload_n 1, 1) := by decide +kernel
theorem dX3_codeAt_5 : decode cX3_codeAt 5 = .ok (.aload_n 0, 1) := by decide +kernel
theorem dX3_codeAt_6 : decode cX3_codeAt 6 = .ok (.getfield 15, 3) := by decide +kernel
theorem dX3_codeAt_9 : decode cX3_codeAt 9 = .ok (.if_icmp .ge 18, 3) := by decide +kernel
theorem dX3_codeAt_12 : decode cX3_codeAt 12 = .ok (.iload_n 1, 1) := by decide +kernel
theorem dX3_codeAt_13 : decode cX3_codeAt 13 = .ok (.bipush 18, 2) := by decide +kernel
theorem dX3_codeAt_15 : decode cX3_codeAt 15 = .ok (.if_icmp .ge 12, 3) := by decide +kernel
theorem dX3_codeAt_18 : decode cX3_codeAt 18 = .ok (.aload_n 0, 1) := by decide +kernel
theorem dX3_codeAt_19 : decode cX3_codeAt 19 = .ok (.getfield 11, 3) := by decide +kernel
theorem dX3_codeAt_22 : decode cX3_codeAt 22 = .ok (.iload_n 1, 1) := by decide +kernel
theorem dX3_codeAt_23 : decode cX3_codeAt 23 = .ok (.iaload, 1) := by decide +kernel
theorem dX3_codeAt_24 : decode cX3_codeAt 24 = .ok (.goto 4, 3) := by decide +kernel
theorem dX3_codeAt_27 : decode cX3_codeAt 27 = .ok (.iconst 0, 1) := by decide +kernel
theorem dX3_codeAt_28 : decode cX3_codeAt 28 = .ok (.ireturn, 1) := by decide +kernel
set_option maxHeartbeats 4000000 in
set_option maxRecDepth 100000 in
theorem c_X3_codeAt (l : Launch) (E : fEv) (N : Nat) (a1 : Int32) (σ : fS) (r : Int32) (τ : fS) (hG : g_X3_codeAt N a1 σ = some (r, τ)) : fM l E yX3_codeAt (.code yX3_codeAt cX3_codeAt 2 (some .int)) rm_X3_codeAt [.ref (E.2.1 1), .int a1] σ τ (some (.int r)) := by
  refine f_openI (by decide) (Nat.le_of_ble_eq_true rfl) ?_
  intro p e s m below meth c args Q F hR hP ls hl
  have hx := F.1.1
  have hb := F.1.2.1
  have hown := F.1.2.2.2.1
  have hts := F.1.2.2.2.2
  have hS : va_S (f_A E) s.heap s.heap [] := va_S.rf
  skip
  have hl : lv_has ls 2 [(0, .ref (E.2.1 1)), (1, .int a1)] := hl
  unfold g_X3_codeAt at hG
  refine lv_iload_n hx hb dX3_codeAt_0 rfl (lv_at hl 1 rfl) ?_
  refine lv_if_lt (tgt := 27) hx hb dX3_codeAt_1 (by decide) (fun c1 => ?_) (fun c1 => ?_)
  · have hG := f_ip c1 hG
    refine lv_iconst (v := 0) hx hb dX3_codeAt_27 (by decide) ?_
    exact x_ri hR hS hP hG dX3_codeAt_28
  · have hG := f_in c1 hG
    refine lv_iload_n hx hb dX3_codeAt_4 rfl (lv_at hl 1 rfl) ?_
    refine lv_aload_n hx hb dX3_codeAt_5 rfl (lv_at hl 0 rfl) ?_
    refine gf_X3_15 F hP dX3_codeAt_6 ?_
    refine lv_icmp_ge (tgt := 27) hx hb dX3_codeAt_9 (by decide) (fun c9 => ?_) (fun c9 => ?_)
    · have hG := f_ip c9 hG
      refine lv_iconst (v := 0) hx hb dX3_codeAt_27 (by decide) ?_
      exact x_ri hR hS hP hG dX3_codeAt_28
    · have hG := f_in c9 hG
      refine lv_iload_n hx hb dX3_codeAt_12 rfl (lv_at hl 1 rfl) ?_
      refine lv_bipush (v := 18) hx hb dX3_codeAt_13 (by decide) ?_
      refine lv_icmp_ge (tgt := 27) hx hb dX3_codeAt_15 (by decide) (fun c15 => ?_) (fun c15 => ?_)
      · have hG := f_ip c15 hG
        refine lv_iconst (v := 0) hx hb dX3_codeAt_27 (by decide) ?_
        exact x_ri hR hS hP hG dX3_codeAt_28
      · have hG := f_in c15 hG
        refine lv_aload_n hx hb dX3_codeAt_18 rfl (lv_at hl 0 rfl) ?_
        refine gf_X3_11 F hP dX3_codeAt_19 ?_
        refine lv_iload_n hx hb dX3_codeAt_22 rfl (lv_at hl 1 rfl) ?_
        obtain ⟨h23, hG⟩ := f_gd hG
        have i23 := f_fin h23
        refine x_iald F hP rfl rfl i23 dX3_codeAt_23 ?_
        refine lv_goto (tgt := 28) hx hb dX3_codeAt_24 (by decide) ?_
        exact x_ri hR hS hP hG dX3_codeAt_28
theorem dX3_isDigit_0 : decode cX3_isDigit 0 = .ok (.iload_n 0, 1) := by decide +kernel
theorem dX3_isDigit_1 : decode cX3_isDigit 1 = .ok (.bipush 48, 2) := by decide +kernel
theorem dX3_isDigit_3 : decode cX3_isDigit 3 = .ok (.if_icmp .lt 13, 3) := by decide +kernel
theorem dX3_isDigit_6 : decode cX3_isDigit 6 = .ok (.iload_n 0, 1) := by decide +kernel
theorem dX3_isDigit_7 : decode cX3_isDigit 7 = .ok (.bipush 57, 2) := by decide +kernel
theorem dX3_isDigit_9 : decode cX3_isDigit 9 = .ok (.if_icmp .gt 7, 3) := by decide +kernel
theorem dX3_isDigit_12 : decode cX3_isDigit 12 = .ok (.iconst 1, 1) := by decide +kernel
theorem dX3_isDigit_13 : decode cX3_isDigit 13 = .ok (.goto 4, 3) := by decide +kernel
theorem dX3_isDigit_16 : decode cX3_isDigit 16 = .ok (.iconst 0, 1) := by decide +kernel
theorem dX3_isDigit_17 : decode cX3_isDigit 17 = .ok (.ireturn, 1) := by decide +kernel
set_option maxHeartbeats 4000000 in
set_option maxRecDepth 100000 in
theorem c_X3_isDigit (l : Launch) (E : fEv) (N : Nat) (a0 : Int32) (σ : fS) (r : Int32) (τ : fS) (hG : g_X3_isDigit N a0 σ = some (r, τ)) : fM l E yX3_isDigit (.code yX3_isDigit cX3_isDigit 1 (some .boolean)) rm_X3_isDigit [.int a0] σ τ (some (.int r)) := by
  refine f_openZ (by decide) (Nat.le_of_ble_eq_true rfl) ?_
  intro p e s m below meth c args Q F hR hP ls hl
  have hx := F.1.1
  have hb := F.1.2.1
  have hown := F.1.2.2.2.1
  have hts := F.1.2.2.2.2
  have hS : va_S (f_A E) s.heap s.heap [] := va_S.rf
  skip
  have hl : lv_has ls 1 [(0, .int a0)] := hl
  unfold g_X3_isDigit at hG
  refine lv_iload_n hx hb dX3_isDigit_0 rfl (lv_at hl 0 rfl) ?_
  refine lv_bipush (v := 48) hx hb dX3_isDigit_1 (by decide) ?_
  refine lv_icmp_lt (tgt := 16) hx hb dX3_isDigit_3 (by decide) (fun c3 => ?_) (fun c3 => ?_)
  · have hG := f_ip c3 hG
    refine lv_iconst (v := 0) hx hb dX3_isDigit_16 (by decide) ?_
    exact x_rz hR hS hP (Or.inl rfl) hG dX3_isDigit_17
  · have hG := f_in c3 hG
    refine lv_iload_n hx hb dX3_isDigit_6 rfl (lv_at hl 0 rfl) ?_
    refine lv_bipush (v := 57) hx hb dX3_isDigit_7 (by decide) ?_
    refine lv_icmp_gt (tgt := 16) hx hb dX3_isDigit_9 (by decide) (fun c9 => ?_) (fun c9 => ?_)
    · have hG := f_ip c9 hG
      refine lv_iconst (v := 0) hx hb dX3_isDigit_16 (by decide) ?_
      exact x_rz hR hS hP (Or.inl rfl) hG dX3_isDigit_17
    · have hG := f_in c9 hG
      refine lv_iconst (v := 1) hx hb dX3_isDigit_12 (by decide) ?_
      refine lv_goto (tgt := 17) hx hb dX3_isDigit_13 (by decide) ?_
      exact x_rz hR hS hP (Or.inr rfl) hG dX3_isDigit_17
theorem dX3_endsInDigit_0 : decode cX3_endsInDigit 0 = .ok (.aload_n 0, 1) := by decide +kernel
theorem dX3_endsInDigit_1 : decode cX3_endsInDigit 1 = .ok (.aload_n 0, 1) := by decide +kernel
theorem dX3_endsInDigit_2 : decode cX3_endsInDigit 2 = .ok (.getfield 15, 3) := by decide +kernel
theorem dX3_endsInDigit_5 : decode cX3_endsInDigit 5 = .ok (.iconst 1, 1) := by decide +kernel
theorem dX3_endsInDigit_6 : decode cX3_endsInDigit 6 = .ok (.isub, 1) := by decide +kernel
theorem dX3_endsInDigit_7 : decode cX3_endsInDigit 7 = .ok (.invokevirtual 19, 3) := by decide +kernel
theorem dX3_endsInDigit_10 : decode cX3_endsInDigit 10 = .ok (.invokestatic 23, 3) := by decide +kernel
theorem dX3_endsInDigit_13 : decode cX3_endsInDigit 13 = .ok (.ireturn, 1) := by decide +kernel
set_option maxHeartbeats 4000000 in
set_option maxRecDepth 100000 in
theorem c_X3_endsInDigit (l : Launch) (E : fEv) (N : Nat)  (σ : fS) (r : Int32) (τ : fS) (hG : g_X3_endsInDigit N  σ = some (r, τ)) : fM l E yX3_endsInDigit (.code yX3_endsInDigit cX3_endsInDigit 1 (some .boolean)) rm_X3_endsInDigit [.ref (E.2.1 1)] σ τ (some (.int r)) := by
  refine f_openZ (by decide) (Nat.le_of_ble_eq_true rfl) ?_
  intro p e s m below meth c args Q F hR hP ls hl
  have hx := F.1.1
  have hb := F.1.2.1
  have hown := F.1.2.2.2.1
  have hts := F.1.2.2.2.2
  have hS : va_S (f_A E) s.heap s.heap [] := va_S.rf
  skip
  have hl : lv_has ls 1 [(0, .ref (E.2.1 1))] := hl
  unfold g_X3_endsInDigit at hG
  refine lv_aload_n hx hb dX3_endsInDigit_0 rfl (lv_at hl 0 rfl) ?_
  refine lv_aload_n hx hb dX3_endsInDigit_1 rfl (lv_at hl 0 rfl) ?_
  refine gf_X3_15 F hP dX3_endsInDigit_2 ?_
  refine lv_iconst (v := 1) hx hb dX3_endsInDigit_5 (by decide) ?_
  refine lv_isub hx hb dX3_endsInDigit_6 ?_
  obtain ⟨r7, σ7, hC7, hG⟩ := f_bd hG
  refine iv_X3_19 F hS hP (c_X3_codeAt l E N ((σ.1 1 1) - (1 : Int32)) σ _ _ hC7) ⟨Nat.le_of_ble_eq_true rfl, Nat.le_of_ble_eq_true rfl⟩ hl.1 (Nat.le_of_ble_eq_true rfl) dX3_endsInDigit_7 ⟨Nat.zero_le _, Nat.zero_le _⟩ (fun H locs hP hS => ?_)
  obtain ⟨r10, σ10, hC10, hG⟩ := f_bd hG
  refine iv_X3_23 F hS hP (c_X3_isDigit l E N r7 σ7 _ _ hC10) ⟨Nat.le_of_ble_eq_true rfl, Nat.le_of_ble_eq_true rfl⟩ hl.1 (Nat.le_of_ble_eq_true rfl) dX3_endsInDigit_10 ⟨Nat.zero_le _, Nat.zero_le _⟩ (fun H locs hP hS => ?_)
  obtain ⟨h13, hG⟩ := f_gd hG
  exact x_rz hR hS hP (f_isB h13) hG dX3_endsInDigit_13
theorem dX3_goesOn_0 : decode cX3_goesOn 0 = .ok (.bipush 10, 2) := by decide +kernel
theorem dX3_goesOn_2 : decode cX3_goesOn 2 = .ok (.iload_n 0, 1) := by decide +kernel
theorem dX3_goesOn_3 : decode cX3_goesOn 3 = .ok (.imul, 1) := by decide +kernel
theorem dX3_goesOn_4 : decode cX3_goesOn 4 = .ok (.iload_n 1, 1) := by decide +kernel
theorem dX3_goesOn_5 : decode cX3_goesOn 5 = .ok (.iadd, 1) := by decide +kernel
theorem dX3_goesOn_6 : decode cX3_goesOn 6 = .ok (.bipush 48, 2) := by decide +kernel
theorem dX3_goesOn_8 : decode cX3_goesOn 8 = .ok (.isub, 1) := by decide +kernel
theorem dX3_goesOn_9 : decode cX3_goesOn 9 = .ok (.invokestatic 48, 3) := by decide +kernel
theorem dX3_goesOn_12 : decode cX3_goesOn 12 = .ok (.ireturn, 1) := by decide +kernel
set_option maxHeartbeats 4000000 in
set_option maxRecDepth 100000 in
theorem c_X3_goesOn (l : Launch) (E : fEv) (N : Nat) (a0 : Int32) (a1 : Int32) (σ : fS) (r : Int32) (τ : fS) (hG : g_X3_goesOn N a0 a1 σ = some (r, τ)) : fM l E yX3_goesOn (.code yX3_goesOn cX3_goesOn 2 (some .boolean)) rm_X3_goesOn [.int a0, .int a1] σ τ (some (.int r)) := by
  refine f_openZ (by decide) (Nat.le_of_ble_eq_true rfl) ?_
  intro p e s m below meth c args Q F hR hP ls hl
  have hx := F.1.1
  have hb := F.1.2.1
  have hown := F.1.2.2.2.1
  have hts := F.1.2.2.2.2
  have hS : va_S (f_A E) s.heap s.heap [] := va_S.rf
  skip
  have hl : lv_has ls 2 [(0, .int a0), (1, .int a1)] := hl
  unfold g_X3_goesOn at hG
  refine lv_bipush (v := 10) hx hb dX3_goesOn_0 (by decide) ?_
  refine lv_iload_n hx hb dX3_goesOn_2 rfl (lv_at hl 0 rfl) ?_
  refine lv_imul hx hb dX3_goesOn_3 ?_
  refine lv_iload_n hx hb dX3_goesOn_4 rfl (lv_at hl 1 rfl) ?_
  refine lv_iadd hx hb dX3_goesOn_5 ?_
  refine lv_bipush (v := 48) hx hb dX3_goesOn_6 (by decide) ?_
  refine lv_isub hx hb dX3_goesOn_8 ?_
  obtain ⟨r9, σ9, hC9, hG⟩ := f_bd hG
  refine iv_X3_48 F hS hP (c_X2_isNumber l E N ((((10 : Int32) * a0) + a1) - (48 : Int32)) σ _ _ hC9) ⟨Nat.le_of_ble_eq_true rfl, Nat.le_of_ble_eq_true rfl⟩ hl.1 (Nat.le_of_ble_eq_true rfl) dX3_goesOn_9 ⟨Nat.zero_le _, Nat.zero_le _⟩ (fun H locs hP hS => ?_)
  obtain ⟨h12, hG⟩ := f_gd hG
  exact x_rz hR hS hP (f_isB h12) hG dX3_goesOn_12
theorem dX3_readInto_0 : decode cX3_readInto 0 = .ok (.aload_n 1, 1) := by decide +kernel
theorem dX3_readInto_1 : decode cX3_readInto 1 = .ok (.invokevirtual 27, 3) := by decide +kernel
theorem dX3_readInto_4 : decode cX3_readInto 4 = .ok (.iconst 0, 1) := by decide +kernel
theorem dX3_readInto_5 : decode cX3_readInto 5 = .ok (.istore_n 2, 1) := by decide +kernel
theorem dX3_readInto_6 : decode cX3_readInto 6 = .ok (.iconst 0, 1) := by decide +kernel
theorem dX3_readInto_7 : decode cX3_readInto 7 = .ok (.istore_n 3, 1) := by decide +kernel
theorem dX3_readInto_8 : decode cX3_readInto 8 = .ok (.iconst 0, 1) := by decide +kernel
theorem dX3_readInto_9 : decode cX3_readInto 9 = .ok (.istore 4, 2) := by decide +kernel
theorem dX3_readInto_11 : decode cX3_readInto 11 = .ok (.iload 4, 2) := by decide +kernel
theorem dX3_readInto_13 : decode cX3_readInto 13 = .ok (.aload_n 0, 1) := by decide +kernel
theorem dX3_readInto_14 : decode cX3_readInto 14 = .ok (.getfield 15, 3) := by decide +kernel
theorem dX3_readInto_17 : decode cX3_readInto 17 = .ok (.if_icmp .ge 114, 3) := by decide +kernel
theorem dX3_readInto_20 : decode cX3_readInto 20 = .ok (.aload_n 0, 1) := by decide +kernel
theorem dX3_readInto_21 : decode cX3_readInto 21 = .ok (.iload 4, 2) := by decide +kernel
theorem dX3_readInto_23 : decode cX3_readInto 23 = .ok (.invokevirtual 19, 3) := by decide +kernel
theorem dX3_readInto_26 : decode cX3_readInto 26 = .ok (.istore 5, 2) := by decide +kernel
theorem dX3_readInto_28 : decode cX3_readInto 28 = .ok (.iload 5, 2) := by decide +kernel
theorem dX3_readInto_30 : decode cX3_readInto 30 = .ok (.invokestatic 23, 3) := by decide +kernel
theorem dX3_readInto_33 : decode cX3_readInto 33 = .ok (.ifCond .eq 26, 3) := by decide +kernel
theorem dX3_readInto_36 : decode cX3_readInto 36 = .ok (.iload_n 2, 1) := by decide +kernel
theorem dX3_readInto_37 : decode cX3_readInto 37 = .ok (.iload 5, 2) := by decide +kernel
theorem dX3_readInto_39 : decode cX3_readInto 39 = .ok (.invokestatic 32, 3) := by decide +kernel
theorem dX3_readInto_42 : decode cX3_readInto 42 = .ok (.ifCond .eq 17, 3) := by decide +kernel
theorem dX3_readInto_45 : decode cX3_readInto 45 = .ok (.bipush 10, 2) := by decide +kernel
theorem dX3_readInto_47 : decode cX3_readInto 47 = .ok (.iload_n 2, 1) := by decide +kernel
theorem dX3_readInto_48 : decode cX3_readInto 48 = .ok (.imul, 1) := by decide +kernel
theorem dX3_readInto_49 : decode cX3_readInto 49 = .ok (.iload 5, 2) := by decide +kernel
theorem dX3_readInto_51 : decode cX3_readInto 51 = .ok (.iadd, 1) := by decide +kernel
theorem dX3_readInto_52 : decode cX3_readInto 52 = .ok (.bipush 48, 2) := by decide +kernel
theorem dX3_readInto_54 : decode cX3_readInto 54 = .ok (.isub, 1) := by decide +kernel
theorem dX3_readInto_55 : decode cX3_readInto 55 = .ok (.istore_n 2, 1) := by decide +kernel
theorem dX3_readInto_56 : decode cX3_readInto 56 = .ok (.goto 69, 3) := by decide +kernel
theorem dX3_readInto_59 : decode cX3_readInto 59 = .ok (.iload 5, 2) := by decide +kernel
theorem dX3_readInto_61 : decode cX3_readInto 61 = .ok (.bipush 45, 2) := by decide +kernel
theorem dX3_readInto_63 : decode cX3_readInto 63 = .ok (.if_icmp .ne 16, 3) := by decide +kernel
theorem dX3_readInto_66 : decode cX3_readInto 66 = .ok (.iload_n 2, 1) := by decide +kernel
theorem dX3_readInto_67 : decode cX3_readInto 67 = .ok (.ifCond .ne 12, 3) := by decide +kernel
theorem dX3_readInto_70 : decode cX3_readInto 70 = .ok (.iload_n 3, 1) := by decide +kernel
theorem dX3_readInto_71 : decode cX3_readInto 71 = .ok (.ifCond .ne 8, 3) := by decide +kernel
theorem dX3_readInto_74 : decode cX3_readInto 74 = .ok (.iconst 1, 1) := by decide +kernel
theorem dX3_readInto_75 : decode cX3_readInto 75 = .ok (.istore_n 3, 1) := by decide +kernel
theorem dX3_readInto_76 : decode cX3_readInto 76 = .ok (.goto 49, 3) := by decide +kernel
theorem dX3_readInto_79 : decode cX3_readInto 79 = .ok (.iload 5, 2) := by decide +kernel
theorem dX3_readInto_81 : decode cX3_readInto 81 = .ok (.bipush 44, 2) := by decide +kernel
theorem dX3_readInto_83 : decode cX3_readInto 83 = .ok (.if_icmp .ne 39, 3) := by decide +kernel
theorem dX3_readInto_86 : decode cX3_readInto 86 = .ok (.iload_n 2, 1) := by decide +kernel
theorem dX3_readInto_87 : decode cX3_readInto 87 = .ok (.ifCond .eq 35, 3) := by decide +kernel
theorem dX3_readInto_90 : decode cX3_readInto 90 = .ok (.aload_n 1, 1) := by decide +kernel
theorem dX3_readInto_91 : decode cX3_readInto 91 = .ok (.getfield 36, 3) := by decide +kernel
theorem dX3_readInto_94 : decode cX3_readInto 94 = .ok (.iconst 3, 1) := by decide +kernel
theorem dX3_readInto_95 : decode cX3_readInto 95 = .ok (.if_icmp .ge 27, 3) := by decide +kernel
theorem dX3_readInto_98 : decode cX3_readInto 98 = .ok (.aload_n 1, 1) := by decide +kernel
theorem dX3_readInto_99 : decode cX3_readInto 99 = .ok (.iload_n 3, 1) := by decide +kernel
theorem dX3_readInto_100 : decode cX3_readInto 100 = .ok (.ifCond .eq 8, 3) := by decide +kernel
theorem dX3_readInto_103 : decode cX3_readInto 103 = .ok (.iload_n 2, 1) := by decide +kernel
theorem dX3_readInto_104 : decode cX3_readInto 104 = .ok (.ineg, 1) := by decide +kernel
theorem dX3_readInto_105 : decode cX3_readInto 105 = .ok (.goto 4, 3) := by decide +kernel
theorem dX3_readInto_108 : decode cX3_readInto 108 = .ok (.iload_n 2, 1) := by decide +kernel
theorem dX3_readInto_109 : decode cX3_readInto 109 = .ok (.invokestatic 39, 3) := by decide +kernel
theorem dX3_readInto_112 : decode cX3_readInto 112 = .ok (.invokevirtual 44, 3) := by decide +kernel
theorem dX3_readInto_115 : decode cX3_readInto 115 = .ok (.iconst 0, 1) := by decide +kernel
theorem dX3_readInto_116 : decode cX3_readInto 116 = .ok (.istore_n 2, 1) := by decide +kernel
theorem dX3_readInto_117 : decode cX3_readInto 117 = .ok (.iconst 0, 1) := by decide +kernel
theorem dX3_readInto_118 : decode cX3_readInto 118 = .ok (.istore_n 3, 1) := by decide +kernel
theorem dX3_readInto_119 : decode cX3_readInto 119 = .ok (.goto 6, 3) := by decide +kernel
theorem dX3_readInto_122 : decode cX3_readInto 122 = .ok (.iload 4, 2) := by decide +kernel
theorem dX3_readInto_124 : decode cX3_readInto 124 = .ok (.ireturn, 1) := by decide +kernel
theorem dX3_readInto_125 : decode cX3_readInto 125 = .ok (.iinc 4 1, 3) := by decide +kernel
theorem dX3_readInto_128 : decode cX3_readInto 128 = .ok (.goto (-117), 3) := by decide +kernel
theorem dX3_readInto_131 : decode cX3_readInto 131 = .ok (.iload_n 2, 1) := by decide +kernel
theorem dX3_readInto_132 : decode cX3_readInto 132 = .ok (.ifCond .eq 20, 3) := by decide +kernel
theorem dX3_readInto_135 : decode cX3_readInto 135 = .ok (.aload_n 1, 1) := by decide +kernel
theorem dX3_readInto_136 : decode cX3_readInto 136 = .ok (.iload_n 3, 1) := by decide +kernel
theorem dX3_readInto_137 : decode cX3_readInto 137 = .ok (.ifCond .eq 8, 3) := by decide +kernel
theorem dX3_readInto_140 : decode cX3_readInto 140 = .ok (.iload_n 2, 1) := by decide +kernel
theorem dX3_readInto_141 : decode cX3_readInto 141 = .ok (.ineg, 1) := by decide +kernel
theorem dX3_readInto_142 : decode cX3_readInto 142 = .ok (.goto 4, 3) := by decide +kernel
theorem dX3_readInto_145 : decode cX3_readInto 145 = .ok (.iload_n 2, 1) := by decide +kernel
theorem dX3_readInto_146 : decode cX3_readInto 146 = .ok (.invokestatic 39, 3) := by decide +kernel
theorem dX3_readInto_149 : decode cX3_readInto 149 = .ok (.invokevirtual 44, 3) := by decide +kernel
theorem dX3_readInto_152 : decode cX3_readInto 152 = .ok (.aload_n 0, 1) := by decide +kernel
theorem dX3_readInto_153 : decode cX3_readInto 153 = .ok (.getfield 15, 3) := by decide +kernel
theorem dX3_readInto_156 : decode cX3_readInto 156 = .ok (.ireturn, 1) := by decide +kernel
set_option maxHeartbeats 4000000 in
set_option maxRecDepth 100000 in
theorem c_X3_readInto (l : Launch) (E : fEv) (N : Nat) (k1 : Nat) (hk1 : kd k1 = 0) (σ : fS) (r : Int32) (τ : fS) (hG : g_X3_readInto N k1 σ = some (r, τ)) : fM l E yX3_readInto (.code yX3_readInto cX3_readInto 6 (some .int)) rm_X3_readInto [.ref (E.2.1 1), .ref (E.2.1 k1)] σ τ (some (.int r)) := by
  refine f_openI (by decide) (Nat.le_of_ble_eq_true rfl) ?_
  intro p e s m below meth c args Q F hR hP ls hl
  have hx := F.1.1
  have hb := F.1.2.1
  have hown := F.1.2.2.2.1
  have hts := F.1.2.2.2.2
  have hS : va_S (f_A E) s.heap s.heap [] := va_S.rf
  skip
  have hl : lv_has ls 6 [(0, .ref (E.2.1 1)), (1, .ref (E.2.1 k1))] := hl
  unfold g_X3_readInto at hG
  refine lv_aload_n hx hb dX3_readInto_0 rfl (lv_at hl 1 rfl) ?_
  obtain ⟨σ1, hC1, hG⟩ := f_bv hG
  refine iv_X3_27 F hS hP hk1 (c_X0_empty l E N k1 hk1 σ _ hC1) ⟨Nat.le_of_ble_eq_true rfl, Nat.le_of_ble_eq_true rfl⟩ hl.1 (Nat.le_of_ble_eq_true rfl) dX3_readInto_1 ⟨Nat.zero_le _, Nat.zero_le _⟩ (fun H locs hP hS => ?_)
  refine lv_iconst (v := 0) hx hb dX3_readInto_4 (by decide) ?_
  refine lv_istore_n (lv' := [(2, .int (0 : Int32)), (0, .ref (E.2.1 1)), (1, .ref (E.2.1 k1))]) hx hb dX3_readInto_5 rfl hl (by decide) rfl (fun ls hl => ?_)
  refine lv_iconst (v := 0) hx hb dX3_readInto_6 (by decide) ?_
  refine lv_istore_n (lv' := [(3, .int (0 : Int32)), (2, .int (0 : Int32)), (0, .ref (E.2.1 1)), (1, .ref (E.2.1 k1))]) hx hb dX3_readInto_7 rfl hl (by decide) rfl (fun ls hl => ?_)
  refine lv_iconst (v := 0) hx hb dX3_readInto_8 (by decide) ?_
  refine lv_istore (lv' := [(4, .int (0 : Int32)), (3, .int (0 : Int32)), (2, .int (0 : Int32)), (0, .ref (E.2.1 1)), (1, .ref (E.2.1 k1))]) hx hb dX3_readInto_9 hl (by decide) rfl (fun ls hl => ?_)
  obtain ⟨z11, hT11, hB11⟩ := f_bs hG
  have T11 : ∀ (o11 : (Int32 × Int32)) (σl11 : fS) (H : Heap) (locs : List Loc) (ls : Array Slot), z11 = .inr (o11, σl11) → f_h E σl11 H → va_S (f_A E) s.heap H locs → lv_has ls 6 [(0, .ref (E.2.1 1)), (1, .ref (E.2.1 k1)), (2, .int o11.1), (3, .int o11.2)] → W p l e rm_X3_readInto s m args below meth c H locs 0 0 Q (F0 m 131 ls []) := by
    intro o11 σl11 H locs ls hz hP hS hl
    rw [hz] at hB11
    have hG := hB11
    replace hG := f_bs_r hG
    refine lv_iload_n hx hb dX3_readInto_131 rfl (lv_at hl 2 rfl) ?_
    refine lv_if_eq (tgt := 152) hx hb dX3_readInto_132 (by decide) (fun c132 => ?_) (fun c132 => ?_)
    · have hG := f_ip c132 hG
      refine lv_aload_n hx hb dX3_readInto_152 rfl (lv_at hl 0 rfl) ?_
      refine gf_X3_15 F hP dX3_readInto_153 ?_
      exact x_ri hR hS hP hG dX3_readInto_156
    · have hG := f_in c132 hG
      refine lv_aload_n hx hb dX3_readInto_135 rfl (lv_at hl 1 rfl) ?_
      refine lv_iload_n hx hb dX3_readInto_136 rfl (lv_at hl 3 rfl) ?_
      obtain ⟨o137, σj137, hT137, hG⟩ := f_bd hG
      have T137 : ∀ (H : Heap) (locs : List Loc) (ls : Array Slot), f_h E σj137 H → va_S (f_A E) s.heap H locs → lv_has ls 6 [(0, .ref (E.2.1 1))] → W p l e rm_X3_readInto s m args below meth c H locs 0 0 Q (F0 m 146 ls [.int o137, .ref (E.2.1 k1)]) := by
        intro H locs ls hP hS hl
        obtain ⟨r146, σ146, hC146, hG⟩ := f_bd hG
        refine iv_X3_39 F hS hP (c_X2_kindOf l E N o137 σj137 _ _ hC146) ⟨Nat.le_of_ble_eq_true rfl, Nat.le_of_ble_eq_true rfl⟩ hl.1 (Nat.le_of_ble_eq_true rfl) dX3_readInto_146 ⟨Nat.zero_le _, Nat.zero_le _⟩ (fun H locs hP hS => ?_)
        obtain ⟨σ149, hC149, hG⟩ := f_bv hG
        refine iv_X3_44 F hS hP hk1 (c_X0_add l E N k1 r146 hk1 σ146 _ hC149) ⟨Nat.le_of_ble_eq_true rfl, Nat.le_of_ble_eq_true rfl⟩ hl.1 (Nat.le_of_ble_eq_true rfl) dX3_readInto_149 ⟨Nat.zero_le _, Nat.zero_le _⟩ (fun H locs hP hS => ?_)
        refine lv_aload_n hx hb dX3_readInto_152 rfl (lv_at hl 0 rfl) ?_
        refine gf_X3_15 F hP dX3_readInto_153 ?_
        exact x_ri hR hS hP hG dX3_readInto_156
      have hG := hT137
      clear hT137
      refine lv_if_eq (tgt := 145) hx hb dX3_readInto_137 (by decide) (fun c137 => ?_) (fun c137 => ?_)
      · have hG := f_ip c137 hG
        refine lv_iload_n hx hb dX3_readInto_145 rfl (lv_at hl 2 rfl) ?_
        cases hG
        exact T137 _ _ _ hP hS (lv_sub hl [0] rfl)
      · have hG := f_in c137 hG
        refine lv_iload_n hx hb dX3_readInto_140 rfl (lv_at hl 2 rfl) ?_
        refine lv_ineg hx hb dX3_readInto_141 ?_
        refine lv_goto (tgt := 146) hx hb dX3_readInto_142 (by decide) ?_
        cases hG
        exact T137 _ _ _ hP hS (lv_sub hl [0] rfl)
  have L11 : ∀ (n11 : Nat) (x11_2 : Int32) (x11_3 : Int32) (x11_4 : Int32) (σh11 : fS) (H : Heap) (locs : List Loc) (ls : Array Slot), f_h E σh11 H → va_S (f_A E) s.heap H locs → lv_has ls 6 [(0, .ref (E.2.1 1)), (1, .ref (E.2.1 k1)), (2, .int x11_2), (3, .int x11_3), (4, .int x11_4)] → lp_X3_readInto_11 N k1 n11 x11_2 x11_3 x11_4 σh11 = some z11 → W p l e rm_X3_readInto s m args below meth c H locs 0 0 Q (F0 m 11 ls []) := by
    intro n11
    induction n11 with
    | zero =>
      intro x11_2 x11_3 x11_4 σh11 H locs ls hP hS hl hG
      rw [lp_X3_readInto_11] at hG
      cases hG
    | succ n11 ih11 =>
      intro x11_2 x11_3 x11_4 σh11 H locs ls hP hS hl hG
      rw [lp_X3_readInto_11] at hG
      refine lv_iload hx hb dX3_readInto_11 (lv_at hl 4 rfl) ?_
      refine lv_aload_n hx hb dX3_readInto_13 rfl (lv_at hl 0 rfl) ?_
      refine gf_X3_15 F hP dX3_readInto_14 ?_
      refine lv_icmp_ge (tgt := 131) hx hb dX3_readInto_17 (by decide) (fun c17 => ?_) (fun c17 => ?_)
      · have hG := f_ip c17 hG
        exact T11 _ _ _ _ _ (Option.some.inj hG).symm hP hS (lv_sub hl [0, 1, 2, 3] rfl)
      · have hG := f_in c17 hG
        refine lv_aload_n hx hb dX3_readInto_20 rfl (lv_at hl 0 rfl) ?_
        refine lv_iload hx hb dX3_readInto_21 (lv_at hl 4 rfl) ?_
        obtain ⟨r23, σ23, hC23, hG⟩ := f_bd hG
        refine iv_X3_19 F hS hP (c_X3_codeAt l E N x11_4 σh11 _ _ hC23) ⟨Nat.le_of_ble_eq_true rfl, Nat.le_of_ble_eq_true rfl⟩ hl.1 (Nat.le_of_ble_eq_true rfl) dX3_readInto_23 ⟨Nat.zero_le _, Nat.zero_le _⟩ (fun H locs hP hS => ?_)
        refine lv_istore (lv' := [(5, .int r23), (0, .ref (E.2.1 1)), (1, .ref (E.2.1 k1)), (2, .int x11_2), (3, .int x11_3), (4, .int x11_4)]) hx hb dX3_readInto_26 hl (by decide) rfl (fun ls hl => ?_)
        refine lv_iload hx hb dX3_readInto_28 (lv_at hl 0 rfl) ?_
        obtain ⟨r30, σ30, hC30, hG⟩ := f_bd hG
        refine iv_X3_23 F hS hP (c_X3_isDigit l E N r23 σ23 _ _ hC30) ⟨Nat.le_of_ble_eq_true rfl, Nat.le_of_ble_eq_true rfl⟩ hl.1 (Nat.le_of_ble_eq_true rfl) dX3_readInto_30 ⟨Nat.zero_le _, Nat.zero_le _⟩ (fun H locs hP hS => ?_)
        refine lv_if_eq (tgt := 59) hx hb dX3_readInto_33 (by decide) (fun c33 => ?_) (fun c33 => ?_)
        · have hG := f_ip c33 hG
          refine lv_iload hx hb dX3_readInto_59 (lv_at hl 0 rfl) ?_
          refine lv_bipush (v := 45) hx hb dX3_readInto_61 (by decide) ?_
          refine lv_icmp_ne (tgt := 79) hx hb dX3_readInto_63 (by decide) (fun c63 => ?_) (fun c63 => ?_)
          · have hG := f_in c63 hG
            refine lv_iload hx hb dX3_readInto_79 (lv_at hl 0 rfl) ?_
            refine lv_bipush (v := 44) hx hb dX3_readInto_81 (by decide) ?_
            refine lv_icmp_ne (tgt := 122) hx hb dX3_readInto_83 (by decide) (fun c83 => ?_) (fun c83 => ?_)
            · have hG := f_in c83 hG
              refine lv_iload hx hb dX3_readInto_122 (lv_at hl 5 rfl) ?_
              have hG := f_bs_l hB11 hG
              exact x_ri hR hS hP hG dX3_readInto_124
            · have hG := f_ip c83 hG
              refine lv_iload_n hx hb dX3_readInto_86 rfl (lv_at hl 3 rfl) ?_
              refine lv_if_eq (tgt := 122) hx hb dX3_readInto_87 (by decide) (fun c87 => ?_) (fun c87 => ?_)
              · have hG := f_ip c87 hG
                refine lv_iload hx hb dX3_readInto_122 (lv_at hl 5 rfl) ?_
                have hG := f_bs_l hB11 hG
                exact x_ri hR hS hP hG dX3_readInto_124
              · have hG := f_in c87 hG
                refine lv_aload_n hx hb dX3_readInto_90 rfl (lv_at hl 2 rfl) ?_
                refine gf_X3_36 F hP hk1 dX3_readInto_91 ?_
                refine lv_iconst (v := 3) hx hb dX3_readInto_94 (by decide) ?_
                refine lv_icmp_ge (tgt := 122) hx hb dX3_readInto_95 (by decide) (fun c95 => ?_) (fun c95 => ?_)
                · have hG := f_ip c95 hG
                  refine lv_iload hx hb dX3_readInto_122 (lv_at hl 5 rfl) ?_
                  have hG := f_bs_l hB11 hG
                  exact x_ri hR hS hP hG dX3_readInto_124
                · have hG := f_in c95 hG
                  refine lv_aload_n hx hb dX3_readInto_98 rfl (lv_at hl 2 rfl) ?_
                  refine lv_iload_n hx hb dX3_readInto_99 rfl (lv_at hl 4 rfl) ?_
                  obtain ⟨o100, σj100, hT100, hG⟩ := f_bd hG
                  have T100 : ∀ (H : Heap) (locs : List Loc) (ls : Array Slot), f_h E σj100 H → va_S (f_A E) s.heap H locs → lv_has ls 6 [(0, .ref (E.2.1 1)), (1, .ref (E.2.1 k1)), (4, .int x11_4)] → W p l e rm_X3_readInto s m args below meth c H locs 0 0 Q (F0 m 109 ls [.int o100, .ref (E.2.1 k1)]) := by
                    intro H locs ls hP hS hl
                    obtain ⟨r109, σ109, hC109, hG⟩ := f_bd hG
                    refine iv_X3_39 F hS hP (c_X2_kindOf l E N o100 σj100 _ _ hC109) ⟨Nat.le_of_ble_eq_true rfl, Nat.le_of_ble_eq_true rfl⟩ hl.1 (Nat.le_of_ble_eq_true rfl) dX3_readInto_109 ⟨Nat.zero_le _, Nat.zero_le _⟩ (fun H locs hP hS => ?_)
                    obtain ⟨σ112, hC112, hG⟩ := f_bv hG
                    refine iv_X3_44 F hS hP hk1 (c_X0_add l E N k1 r109 hk1 σ109 _ hC112) ⟨Nat.le_of_ble_eq_true rfl, Nat.le_of_ble_eq_true rfl⟩ hl.1 (Nat.le_of_ble_eq_true rfl) dX3_readInto_112 ⟨Nat.zero_le _, Nat.zero_le _⟩ (fun H locs hP hS => ?_)
                    refine lv_iconst (v := 0) hx hb dX3_readInto_115 (by decide) ?_
                    refine lv_istore_n (lv' := [(2, .int (0 : Int32)), (0, .ref (E.2.1 1)), (1, .ref (E.2.1 k1)), (4, .int x11_4)]) hx hb dX3_readInto_116 rfl hl (by decide) rfl (fun ls hl => ?_)
                    refine lv_iconst (v := 0) hx hb dX3_readInto_117 (by decide) ?_
                    refine lv_istore_n (lv' := [(3, .int (0 : Int32)), (2, .int (0 : Int32)), (0, .ref (E.2.1 1)), (1, .ref (E.2.1 k1)), (4, .int x11_4)]) hx hb dX3_readInto_118 rfl hl (by decide) rfl (fun ls hl => ?_)
                    refine lv_goto (tgt := 125) hx hb dX3_readInto_119 (by decide) ?_
                    refine lv_iinc (v := (x11_4 + (1 : Int32))) (lv' := [(4, .int (x11_4 + (1 : Int32))), (3, .int (0 : Int32)), (2, .int (0 : Int32)), (0, .ref (E.2.1 1)), (1, .ref (E.2.1 k1))]) hx hb dX3_readInto_125 hl (k := 4) rfl (by rfl) (by decide) rfl (fun ls hl => ?_)
                    refine lv_goto (tgt := 11) hx hb dX3_readInto_128 (by decide) ?_
                    exact ih11 (0 : Int32) (0 : Int32) (x11_4 + (1 : Int32)) σ112 _ _ _ hP hS (lv_sub hl [3, 4, 2, 1, 0] rfl) hG
                  have hG := hT100
                  clear hT100
                  refine lv_if_eq (tgt := 108) hx hb dX3_readInto_100 (by decide) (fun c100 => ?_) (fun c100 => ?_)
                  · have hG := f_ip c100 hG
                    refine lv_iload_n hx hb dX3_readInto_108 rfl (lv_at hl 3 rfl) ?_
                    cases hG
                    exact T100 _ _ _ hP hS (lv_sub hl [1, 2, 5] rfl)
                  · have hG := f_in c100 hG
                    refine lv_iload_n hx hb dX3_readInto_103 rfl (lv_at hl 3 rfl) ?_
                    refine lv_ineg hx hb dX3_readInto_104 ?_
                    refine lv_goto (tgt := 109) hx hb dX3_readInto_105 (by decide) ?_
                    cases hG
                    exact T100 _ _ _ hP hS (lv_sub hl [1, 2, 5] rfl)
          · have hG := f_ip c63 hG
            refine lv_iload_n hx hb dX3_readInto_66 rfl (lv_at hl 3 rfl) ?_
            refine lv_if_ne (tgt := 79) hx hb dX3_readInto_67 (by decide) (fun c67 => ?_) (fun c67 => ?_)
            · have hG := f_in c67 hG
              refine lv_iload hx hb dX3_readInto_79 (lv_at hl 0 rfl) ?_
              refine lv_bipush (v := 44) hx hb dX3_readInto_81 (by decide) ?_
              refine lv_icmp_ne (tgt := 122) hx hb dX3_readInto_83 (by decide) (fun c83 => ?_) (fun c83 => ?_)
              · have hG := f_in c83 hG
                refine lv_iload hx hb dX3_readInto_122 (lv_at hl 5 rfl) ?_
                have hG := f_bs_l hB11 hG
                exact x_ri hR hS hP hG dX3_readInto_124
              · have hG := f_ip c83 hG
                refine lv_iload_n hx hb dX3_readInto_86 rfl (lv_at hl 3 rfl) ?_
                refine lv_if_eq (tgt := 122) hx hb dX3_readInto_87 (by decide) (fun c87 => ?_) (fun c87 => ?_)
                · have hG := f_ip c87 hG
                  refine lv_iload hx hb dX3_readInto_122 (lv_at hl 5 rfl) ?_
                  have hG := f_bs_l hB11 hG
                  exact x_ri hR hS hP hG dX3_readInto_124
                · have hG := f_in c87 hG
                  refine lv_aload_n hx hb dX3_readInto_90 rfl (lv_at hl 2 rfl) ?_
                  refine gf_X3_36 F hP hk1 dX3_readInto_91 ?_
                  refine lv_iconst (v := 3) hx hb dX3_readInto_94 (by decide) ?_
                  refine lv_icmp_ge (tgt := 122) hx hb dX3_readInto_95 (by decide) (fun c95 => ?_) (fun c95 => ?_)
                  · have hG := f_ip c95 hG
                    refine lv_iload hx hb dX3_readInto_122 (lv_at hl 5 rfl) ?_
                    have hG := f_bs_l hB11 hG
                    exact x_ri hR hS hP hG dX3_readInto_124
                  · have hG := f_in c95 hG
                    refine lv_aload_n hx hb dX3_readInto_98 rfl (lv_at hl 2 rfl) ?_
                    refine lv_iload_n hx hb dX3_readInto_99 rfl (lv_at hl 4 rfl) ?_
                    obtain ⟨o100, σj100, hT100, hG⟩ := f_bd hG
                    have T100 : ∀ (H : Heap) (locs : List Loc) (ls : Array Slot), f_h E σj100 H → va_S (f_A E) s.heap H locs → lv_has ls 6 [(0, .ref (E.2.1 1)), (1, .ref (E.2.1 k1)), (4, .int x11_4)] → W p l e rm_X3_readInto s m args below meth c H locs 0 0 Q (F0 m 109 ls [.int o100, .ref (E.2.1 k1)]) := by
                      intro H locs ls hP hS hl
                      obtain ⟨r109, σ109, hC109, hG⟩ := f_bd hG
                      refine iv_X3_39 F hS hP (c_X2_kindOf l E N o100 σj100 _ _ hC109) ⟨Nat.le_of_ble_eq_true rfl, Nat.le_of_ble_eq_true rfl⟩ hl.1 (Nat.le_of_ble_eq_true rfl) dX3_readInto_109 ⟨Nat.zero_le _, Nat.zero_le _⟩ (fun H locs hP hS => ?_)
                      obtain ⟨σ112, hC112, hG⟩ := f_bv hG
                      refine iv_X3_44 F hS hP hk1 (c_X0_add l E N k1 r109 hk1 σ109 _ hC112) ⟨Nat.le_of_ble_eq_true rfl, Nat.le_of_ble_eq_true rfl⟩ hl.1 (Nat.le_of_ble_eq_true rfl) dX3_readInto_112 ⟨Nat.zero_le _, Nat.zero_le _⟩ (fun H locs hP hS => ?_)
                      refine lv_iconst (v := 0) hx hb dX3_readInto_115 (by decide) ?_
                      refine lv_istore_n (lv' := [(2, .int (0 : Int32)), (0, .ref (E.2.1 1)), (1, .ref (E.2.1 k1)), (4, .int x11_4)]) hx hb dX3_readInto_116 rfl hl (by decide) rfl (fun ls hl => ?_)
                      refine lv_iconst (v := 0) hx hb dX3_readInto_117 (by decide) ?_
                      refine lv_istore_n (lv' := [(3, .int (0 : Int32)), (2, .int (0 : Int32)), (0, .ref (E.2.1 1)), (1, .ref (E.2.1 k1)), (4, .int x11_4)]) hx hb dX3_readInto_118 rfl hl (by decide) rfl (fun ls hl => ?_)
                      refine lv_goto (tgt := 125) hx hb dX3_readInto_119 (by decide) ?_
                      refine lv_iinc (v := (x11_4 + (1 : Int32))) (lv' := [(4, .int (x11_4 + (1 : Int32))), (3, .int (0 : Int32)), (2, .int (0 : Int32)), (0, .ref (E.2.1 1)), (1, .ref (E.2.1 k1))]) hx hb dX3_readInto_125 hl (k := 4) rfl (by rfl) (by decide) rfl (fun ls hl => ?_)
                      refine lv_goto (tgt := 11) hx hb dX3_readInto_128 (by decide) ?_
                      exact ih11 (0 : Int32) (0 : Int32) (x11_4 + (1 : Int32)) σ112 _ _ _ hP hS (lv_sub hl [3, 4, 2, 1, 0] rfl) hG
                    have hG := hT100
                    clear hT100
                    refine lv_if_eq (tgt := 108) hx hb dX3_readInto_100 (by decide) (fun c100 => ?_) (fun c100 => ?_)
                    · have hG := f_ip c100 hG
                      refine lv_iload_n hx hb dX3_readInto_108 rfl (lv_at hl 3 rfl) ?_
                      cases hG
                      exact T100 _ _ _ hP hS (lv_sub hl [1, 2, 5] rfl)
                    · have hG := f_in c100 hG
                      refine lv_iload_n hx hb dX3_readInto_103 rfl (lv_at hl 3 rfl) ?_
                      refine lv_ineg hx hb dX3_readInto_104 ?_
                      refine lv_goto (tgt := 109) hx hb dX3_readInto_105 (by decide) ?_
                      cases hG
                      exact T100 _ _ _ hP hS (lv_sub hl [1, 2, 5] rfl)
            · have hG := f_ip c67 hG
              refine lv_iload_n hx hb dX3_readInto_70 rfl (lv_at hl 4 rfl) ?_
              refine lv_if_ne (tgt := 79) hx hb dX3_readInto_71 (by decide) (fun c71 => ?_) (fun c71 => ?_)
              · have hG := f_in c71 hG
                refine lv_iload hx hb dX3_readInto_79 (lv_at hl 0 rfl) ?_
                refine lv_bipush (v := 44) hx hb dX3_readInto_81 (by decide) ?_
                refine lv_icmp_ne (tgt := 122) hx hb dX3_readInto_83 (by decide) (fun c83 => ?_) (fun c83 => ?_)
                · have hG := f_in c83 hG
                  refine lv_iload hx hb dX3_readInto_122 (lv_at hl 5 rfl) ?_
                  have hG := f_bs_l hB11 hG
                  exact x_ri hR hS hP hG dX3_readInto_124
                · have hG := f_ip c83 hG
                  refine lv_iload_n hx hb dX3_readInto_86 rfl (lv_at hl 3 rfl) ?_
                  refine lv_if_eq (tgt := 122) hx hb dX3_readInto_87 (by decide) (fun c87 => ?_) (fun c87 => ?_)
                  · have hG := f_ip c87 hG
                    refine lv_iload hx hb dX3_readInto_122 (lv_at hl 5 rfl) ?_
                    have hG := f_bs_l hB11 hG
                    exact x_ri hR hS hP hG dX3_readInto_124
                  · have hG := f_in c87 hG
                    refine lv_aload_n hx hb dX3_readInto_90 rfl (lv_at hl 2 rfl) ?_
                    refine gf_X3_36 F hP hk1 dX3_readInto_91 ?_
                    refine lv_iconst (v := 3) hx hb dX3_readInto_94 (by decide) ?_
                    refine lv_icmp_ge (tgt := 122) hx hb dX3_readInto_95 (by decide) (fun c95 => ?_) (fun c95 => ?_)
                    · have hG := f_ip c95 hG
                      refine lv_iload hx hb dX3_readInto_122 (lv_at hl 5 rfl) ?_
                      have hG := f_bs_l hB11 hG
                      exact x_ri hR hS hP hG dX3_readInto_124
                    · have hG := f_in c95 hG
                      refine lv_aload_n hx hb dX3_readInto_98 rfl (lv_at hl 2 rfl) ?_
                      refine lv_iload_n hx hb dX3_readInto_99 rfl (lv_at hl 4 rfl) ?_
                      obtain ⟨o100, σj100, hT100, hG⟩ := f_bd hG
                      have T100 : ∀ (H : Heap) (locs : List Loc) (ls : Array Slot), f_h E σj100 H → va_S (f_A E) s.heap H locs → lv_has ls 6 [(0, .ref (E.2.1 1)), (1, .ref (E.2.1 k1)), (4, .int x11_4)] → W p l e rm_X3_readInto s m args below meth c H locs 0 0 Q (F0 m 109 ls [.int o100, .ref (E.2.1 k1)]) := by
                        intro H locs ls hP hS hl
                        obtain ⟨r109, σ109, hC109, hG⟩ := f_bd hG
                        refine iv_X3_39 F hS hP (c_X2_kindOf l E N o100 σj100 _ _ hC109) ⟨Nat.le_of_ble_eq_true rfl, Nat.le_of_ble_eq_true rfl⟩ hl.1 (Nat.le_of_ble_eq_true rfl) dX3_readInto_109 ⟨Nat.zero_le _, Nat.zero_le _⟩ (fun H locs hP hS => ?_)
                        obtain ⟨σ112, hC112, hG⟩ := f_bv hG
                        refine iv_X3_44 F hS hP hk1 (c_X0_add l E N k1 r109 hk1 σ109 _ hC112) ⟨Nat.le_of_ble_eq_true rfl, Nat.le_of_ble_eq_true rfl⟩ hl.1 (Nat.le_of_ble_eq_true rfl) dX3_readInto_112 ⟨Nat.zero_le _, Nat.zero_le _⟩ (fun H locs hP hS => ?_)
                        refine lv_iconst (v := 0) hx hb dX3_readInto_115 (by decide) ?_
                        refine lv_istore_n (lv' := [(2, .int (0 : Int32)), (0, .ref (E.2.1 1)), (1, .ref (E.2.1 k1)), (4, .int x11_4)]) hx hb dX3_readInto_116 rfl hl (by decide) rfl (fun ls hl => ?_)
                        refine lv_iconst (v := 0) hx hb dX3_readInto_117 (by decide) ?_
                        refine lv_istore_n (lv' := [(3, .int (0 : Int32)), (2, .int (0 : Int32)), (0, .ref (E.2.1 1)), (1, .ref (E.2.1 k1)), (4, .int x11_4)]) hx hb dX3_readInto_118 rfl hl (by decide) rfl (fun ls hl => ?_)
                        refine lv_goto (tgt := 125) hx hb dX3_readInto_119 (by decide) ?_
                        refine lv_iinc (v := (x11_4 + (1 : Int32))) (lv' := [(4, .int (x11_4 + (1 : Int32))), (3, .int (0 : Int32)), (2, .int (0 : Int32)), (0, .ref (E.2.1 1)), (1, .ref (E.2.1 k1))]) hx hb dX3_readInto_125 hl (k := 4) rfl (by rfl) (by decide) rfl (fun ls hl => ?_)
                        refine lv_goto (tgt := 11) hx hb dX3_readInto_128 (by decide) ?_
                        exact ih11 (0 : Int32) (0 : Int32) (x11_4 + (1 : Int32)) σ112 _ _ _ hP hS (lv_sub hl [3, 4, 2, 1, 0] rfl) hG
                      have hG := hT100
                      clear hT100
                      refine lv_if_eq (tgt := 108) hx hb dX3_readInto_100 (by decide) (fun c100 => ?_) (fun c100 => ?_)
                      · have hG := f_ip c100 hG
                        refine lv_iload_n hx hb dX3_readInto_108 rfl (lv_at hl 3 rfl) ?_
                        cases hG
                        exact T100 _ _ _ hP hS (lv_sub hl [1, 2, 5] rfl)
                      · have hG := f_in c100 hG
                        refine lv_iload_n hx hb dX3_readInto_103 rfl (lv_at hl 3 rfl) ?_
                        refine lv_ineg hx hb dX3_readInto_104 ?_
                        refine lv_goto (tgt := 109) hx hb dX3_readInto_105 (by decide) ?_
                        cases hG
                        exact T100 _ _ _ hP hS (lv_sub hl [1, 2, 5] rfl)
              · have hG := f_ip c71 hG
                refine lv_iconst (v := 1) hx hb dX3_readInto_74 (by decide) ?_
                refine lv_istore_n (lv' := [(3, .int (1 : Int32)), (5, .int r23), (0, .ref (E.2.1 1)), (1, .ref (E.2.1 k1)), (2, .int x11_2), (4, .int x11_4)]) hx hb dX3_readInto_75 rfl hl (by decide) rfl (fun ls hl => ?_)
                refine lv_goto (tgt := 125) hx hb dX3_readInto_76 (by decide) ?_
                refine lv_iinc (v := (x11_4 + (1 : Int32))) (lv' := [(4, .int (x11_4 + (1 : Int32))), (3, .int (1 : Int32)), (5, .int r23), (0, .ref (E.2.1 1)), (1, .ref (E.2.1 k1)), (2, .int x11_2)]) hx hb dX3_readInto_125 hl (k := 5) rfl (by rfl) (by decide) rfl (fun ls hl => ?_)
                refine lv_goto (tgt := 11) hx hb dX3_readInto_128 (by decide) ?_
                exact ih11 x11_2 (1 : Int32) (x11_4 + (1 : Int32)) σ30 _ _ _ hP hS (lv_sub hl [3, 4, 5, 1, 0] rfl) hG
        · have hG := f_in c33 hG
          refine lv_iload_n hx hb dX3_readInto_36 rfl (lv_at hl 3 rfl) ?_
          refine lv_iload hx hb dX3_readInto_37 (lv_at hl 0 rfl) ?_
          obtain ⟨r39, σ39, hC39, hG⟩ := f_bd hG
          refine iv_X3_32 F hS hP (c_X3_goesOn l E N x11_2 r23 σ30 _ _ hC39) ⟨Nat.le_of_ble_eq_true rfl, Nat.le_of_ble_eq_true rfl⟩ hl.1 (Nat.le_of_ble_eq_true rfl) dX3_readInto_39 ⟨Nat.zero_le _, Nat.zero_le _⟩ (fun H locs hP hS => ?_)
          refine lv_if_eq (tgt := 59) hx hb dX3_readInto_42 (by decide) (fun c42 => ?_) (fun c42 => ?_)
          · have hG := f_ip c42 hG
            refine lv_iload hx hb dX3_readInto_59 (lv_at hl 0 rfl) ?_
            refine lv_bipush (v := 45) hx hb dX3_readInto_61 (by decide) ?_
            refine lv_icmp_ne (tgt := 79) hx hb dX3_readInto_63 (by decide) (fun c63 => ?_) (fun c63 => ?_)
            · have hG := f_in c63 hG
              refine lv_iload hx hb dX3_readInto_79 (lv_at hl 0 rfl) ?_
              refine lv_bipush (v := 44) hx hb dX3_readInto_81 (by decide) ?_
              refine lv_icmp_ne (tgt := 122) hx hb dX3_readInto_83 (by decide) (fun c83 => ?_) (fun c83 => ?_)
              · have hG := f_in c83 hG
                refine lv_iload hx hb dX3_readInto_122 (lv_at hl 5 rfl) ?_
                have hG := f_bs_l hB11 hG
                exact x_ri hR hS hP hG dX3_readInto_124
              · have hG := f_ip c83 hG
                refine lv_iload_n hx hb dX3_readInto_86 rfl (lv_at hl 3 rfl) ?_
                refine lv_if_eq (tgt := 122) hx hb dX3_readInto_87 (by decide) (fun c87 => ?_) (fun c87 => ?_)
                · have hG := f_ip c87 hG
                  refine lv_iload hx hb dX3_readInto_122 (lv_at hl 5 rfl) ?_
                  have hG := f_bs_l hB11 hG
                  exact x_ri hR hS hP hG dX3_readInto_124
                · have hG := f_in c87 hG
                  refine lv_aload_n hx hb dX3_readInto_90 rfl (lv_at hl 2 rfl) ?_
                  refine gf_X3_36 F hP hk1 dX3_readInto_91 ?_
                  refine lv_iconst (v := 3) hx hb dX3_readInto_94 (by decide) ?_
                  refine lv_icmp_ge (tgt := 122) hx hb dX3_readInto_95 (by decide) (fun c95 => ?_) (fun c95 => ?_)
                  · have hG := f_ip c95 hG
                    refine lv_iload hx hb dX3_readInto_122 (lv_at hl 5 rfl) ?_
                    have hG := f_bs_l hB11 hG
                    exact x_ri hR hS hP hG dX3_readInto_124
                  · have hG := f_in c95 hG
                    refine lv_aload_n hx hb dX3_readInto_98 rfl (lv_at hl 2 rfl) ?_
                    refine lv_iload_n hx hb dX3_readInto_99 rfl (lv_at hl 4 rfl) ?_
                    obtain ⟨o100, σj100, hT100, hG⟩ := f_bd hG
                    have T100 : ∀ (H : Heap) (locs : List Loc) (ls : Array Slot), f_h E σj100 H → va_S (f_A E) s.heap H locs → lv_has ls 6 [(0, .ref (E.2.1 1)), (1, .ref (E.2.1 k1)), (4, .int x11_4)] → W p l e rm_X3_readInto s m args below meth c H locs 0 0 Q (F0 m 109 ls [.int o100, .ref (E.2.1 k1)]) := by
                      intro H locs ls hP hS hl
                      obtain ⟨r109, σ109, hC109, hG⟩ := f_bd hG
                      refine iv_X3_39 F hS hP (c_X2_kindOf l E N o100 σj100 _ _ hC109) ⟨Nat.le_of_ble_eq_true rfl, Nat.le_of_ble_eq_true rfl⟩ hl.1 (Nat.le_of_ble_eq_true rfl) dX3_readInto_109 ⟨Nat.zero_le _, Nat.zero_le _⟩ (fun H locs hP hS => ?_)
                      obtain ⟨σ112, hC112, hG⟩ := f_bv hG
                      refine iv_X3_44 F hS hP hk1 (c_X0_add l E N k1 r109 hk1 σ109 _ hC112) ⟨Nat.le_of_ble_eq_true rfl, Nat.le_of_ble_eq_true rfl⟩ hl.1 (Nat.le_of_ble_eq_true rfl) dX3_readInto_112 ⟨Nat.zero_le _, Nat.zero_le _⟩ (fun H locs hP hS => ?_)
                      refine lv_iconst (v := 0) hx hb dX3_readInto_115 (by decide) ?_
                      refine lv_istore_n (lv' := [(2, .int (0 : Int32)), (0, .ref (E.2.1 1)), (1, .ref (E.2.1 k1)), (4, .int x11_4)]) hx hb dX3_readInto_116 rfl hl (by decide) rfl (fun ls hl => ?_)
                      refine lv_iconst (v := 0) hx hb dX3_readInto_117 (by decide) ?_
                      refine lv_istore_n (lv' := [(3, .int (0 : Int32)), (2, .int (0 : Int32)), (0, .ref (E.2.1 1)), (1, .ref (E.2.1 k1)), (4, .int x11_4)]) hx hb dX3_readInto_118 rfl hl (by decide) rfl (fun ls hl => ?_)
                      refine lv_goto (tgt := 125) hx hb dX3_readInto_119 (by decide) ?_
                      refine lv_iinc (v := (x11_4 + (1 : Int32))) (lv' := [(4, .int (x11_4 + (1 : Int32))), (3, .int (0 : Int32)), (2, .int (0 : Int32)), (0, .ref (E.2.1 1)), (1, .ref (E.2.1 k1))]) hx hb dX3_readInto_125 hl (k := 4) rfl (by rfl) (by decide) rfl (fun ls hl => ?_)
                      refine lv_goto (tgt := 11) hx hb dX3_readInto_128 (by decide) ?_
                      exact ih11 (0 : Int32) (0 : Int32) (x11_4 + (1 : Int32)) σ112 _ _ _ hP hS (lv_sub hl [3, 4, 2, 1, 0] rfl) hG
                    have hG := hT100
                    clear hT100
                    refine lv_if_eq (tgt := 108) hx hb dX3_readInto_100 (by decide) (fun c100 => ?_) (fun c100 => ?_)
                    · have hG := f_ip c100 hG
                      refine lv_iload_n hx hb dX3_readInto_108 rfl (lv_at hl 3 rfl) ?_
                      cases hG
                      exact T100 _ _ _ hP hS (lv_sub hl [1, 2, 5] rfl)
                    · have hG := f_in c100 hG
                      refine lv_iload_n hx hb dX3_readInto_103 rfl (lv_at hl 3 rfl) ?_
                      refine lv_ineg hx hb dX3_readInto_104 ?_
                      refine lv_goto (tgt := 109) hx hb dX3_readInto_105 (by decide) ?_
                      cases hG
                      exact T100 _ _ _ hP hS (lv_sub hl [1, 2, 5] rfl)
            · have hG := f_ip c63 hG
              refine lv_iload_n hx hb dX3_readInto_66 rfl (lv_at hl 3 rfl) ?_
              refine lv_if_ne (tgt := 79) hx hb dX3_readInto_67 (by decide) (fun c67 => ?_) (fun c67 => ?_)
              · have hG := f_in c67 hG
                refine lv_iload hx hb dX3_readInto_79 (lv_at hl 0 rfl) ?_
                refine lv_bipush (v := 44) hx hb dX3_readInto_81 (by decide) ?_
                refine lv_icmp_ne (tgt := 122) hx hb dX3_readInto_83 (by decide) (fun c83 => ?_) (fun c83 => ?_)
                · have hG := f_in c83 hG
                  refine lv_iload hx hb dX3_readInto_122 (lv_at hl 5 rfl) ?_
                  have hG := f_bs_l hB11 hG
                  exact x_ri hR hS hP hG dX3_readInto_124
                · have hG := f_ip c83 hG
                  refine lv_iload_n hx hb dX3_readInto_86 rfl (lv_at hl 3 rfl) ?_
                  refine lv_if_eq (tgt := 122) hx hb dX3_readInto_87 (by decide) (fun c87 => ?_) (fun c87 => ?_)
                  · have hG := f_ip c87 hG
                    refine lv_iload hx hb dX3_readInto_122 (lv_at hl 5 rfl) ?_
                    have hG := f_bs_l hB11 hG
                    exact x_ri hR hS hP hG dX3_readInto_124
                  · have hG := f_in c87 hG
                    refine lv_aload_n hx hb dX3_readInto_90 rfl (lv_at hl 2 rfl) ?_
                    refine gf_X3_36 F hP hk1 dX3_readInto_91 ?_
                    refine lv_iconst (v := 3) hx hb dX3_readInto_94 (by decide) ?_
                    refine lv_icmp_ge (tgt := 122) hx hb dX3_readInto_95 (by decide) (fun c95 => ?_) (fun c95 => ?_)
                    · have hG := f_ip c95 hG
                      refine lv_iload hx hb dX3_readInto_122 (lv_at hl 5 rfl) ?_
                      have hG := f_bs_l hB11 hG
                      exact x_ri hR hS hP hG dX3_readInto_124
                    · have hG := f_in c95 hG
                      refine lv_aload_n hx hb dX3_readInto_98 rfl (lv_at hl 2 rfl) ?_
                      refine lv_iload_n hx hb dX3_readInto_99 rfl (lv_at hl 4 rfl) ?_
                      obtain ⟨o100, σj100, hT100, hG⟩ := f_bd hG
                      have T100 : ∀ (H : Heap) (locs : List Loc) (ls : Array Slot), f_h E σj100 H → va_S (f_A E) s.heap H locs → lv_has ls 6 [(0, .ref (E.2.1 1)), (1, .ref (E.2.1 k1)), (4, .int x11_4)] → W p l e rm_X3_readInto s m args below meth c H locs 0 0 Q (F0 m 109 ls [.int o100, .ref (E.2.1 k1)]) := by
                        intro H locs ls hP hS hl
                        obtain ⟨r109, σ109, hC109, hG⟩ := f_bd hG
                        refine iv_X3_39 F hS hP (c_X2_kindOf l E N o100 σj100 _ _ hC109) ⟨Nat.le_of_ble_eq_true rfl, Nat.le_of_ble_eq_true rfl⟩ hl.1 (Nat.le_of_ble_eq_true rfl) dX3_readInto_109 ⟨Nat.zero_le _, Nat.zero_le _⟩ (fun H locs hP hS => ?_)
                        obtain ⟨σ112, hC112, hG⟩ := f_bv hG
                        refine iv_X3_44 F hS hP hk1 (c_X0_add l E N k1 r109 hk1 σ109 _ hC112) ⟨Nat.le_of_ble_eq_true rfl, Nat.le_of_ble_eq_true rfl⟩ hl.1 (Nat.le_of_ble_eq_true rfl) dX3_readInto_112 ⟨Nat.zero_le _, Nat.zero_le _⟩ (fun H locs hP hS => ?_)
                        refine lv_iconst (v := 0) hx hb dX3_readInto_115 (by decide) ?_
                        refine lv_istore_n (lv' := [(2, .int (0 : Int32)), (0, .ref (E.2.1 1)), (1, .ref (E.2.1 k1)), (4, .int x11_4)]) hx hb dX3_readInto_116 rfl hl (by decide) rfl (fun ls hl => ?_)
                        refine lv_iconst (v := 0) hx hb dX3_readInto_117 (by decide) ?_
                        refine lv_istore_n (lv' := [(3, .int (0 : Int32)), (2, .int (0 : Int32)), (0, .ref (E.2.1 1)), (1, .ref (E.2.1 k1)), (4, .int x11_4)]) hx hb dX3_readInto_118 rfl hl (by decide) rfl (fun ls hl => ?_)
                        refine lv_goto (tgt := 125) hx hb dX3_readInto_119 (by decide) ?_
                        refine lv_iinc (v := (x11_4 + (1 : Int32))) (lv' := [(4, .int (x11_4 + (1 : Int32))), (3, .int (0 : Int32)), (2, .int (0 : Int32)), (0, .ref (E.2.1 1)), (1, .ref (E.2.1 k1))]) hx hb dX3_readInto_125 hl (k := 4) rfl (by rfl) (by decide) rfl (fun ls hl => ?_)
                        refine lv_goto (tgt := 11) hx hb dX3_readInto_128 (by decide) ?_
                        exact ih11 (0 : Int32) (0 : Int32) (x11_4 + (1 : Int32)) σ112 _ _ _ hP hS (lv_sub hl [3, 4, 2, 1, 0] rfl) hG
                      have hG := hT100
                      clear hT100
                      refine lv_if_eq (tgt := 108) hx hb dX3_readInto_100 (by decide) (fun c100 => ?_) (fun c100 => ?_)
                      · have hG := f_ip c100 hG
                        refine lv_iload_n hx hb dX3_readInto_108 rfl (lv_at hl 3 rfl) ?_
                        cases hG
                        exact T100 _ _ _ hP hS (lv_sub hl [1, 2, 5] rfl)
                      · have hG := f_in c100 hG
                        refine lv_iload_n hx hb dX3_readInto_103 rfl (lv_at hl 3 rfl) ?_
                        refine lv_ineg hx hb dX3_readInto_104 ?_
                        refine lv_goto (tgt := 109) hx hb dX3_readInto_105 (by decide) ?_
                        cases hG
                        exact T100 _ _ _ hP hS (lv_sub hl [1, 2, 5] rfl)
              · have hG := f_ip c67 hG
                refine lv_iload_n hx hb dX3_readInto_70 rfl (lv_at hl 4 rfl) ?_
                refine lv_if_ne (tgt := 79) hx hb dX3_readInto_71 (by decide) (fun c71 => ?_) (fun c71 => ?_)
                · have hG := f_in c71 hG
                  refine lv_iload hx hb dX3_readInto_79 (lv_at hl 0 rfl) ?_
                  refine lv_bipush (v := 44) hx hb dX3_readInto_81 (by decide) ?_
                  refine lv_icmp_ne (tgt := 122) hx hb dX3_readInto_83 (by decide) (fun c83 => ?_) (fun c83 => ?_)
                  · have hG := f_in c83 hG
                    refine lv_iload hx hb dX3_readInto_122 (lv_at hl 5 rfl) ?_
                    have hG := f_bs_l hB11 hG
                    exact x_ri hR hS hP hG dX3_readInto_124
                  · have hG := f_ip c83 hG
                    refine lv_iload_n hx hb dX3_readInto_86 rfl (lv_at hl 3 rfl) ?_
                    refine lv_if_eq (tgt := 122) hx hb dX3_readInto_87 (by decide) (fun c87 => ?_) (fun c87 => ?_)
                    · have hG := f_ip c87 hG
                      refine lv_iload hx hb dX3_readInto_122 (lv_at hl 5 rfl) ?_
                      have hG := f_bs_l hB11 hG
                      exact x_ri hR hS hP hG dX3_readInto_124
                    · have hG := f_in c87 hG
                      refine lv_aload_n hx hb dX3_readInto_90 rfl (lv_at hl 2 rfl) ?_
                      refine gf_X3_36 F hP hk1 dX3_readInto_91 ?_
                      refine lv_iconst (v := 3) hx hb dX3_readInto_94 (by decide) ?_
                      refine lv_icmp_ge (tgt := 122) hx hb dX3_readInto_95 (by decide) (fun c95 => ?_) (fun c95 => ?_)
                      · have hG := f_ip c95 hG
                        refine lv_iload hx hb dX3_readInto_122 (lv_at hl 5 rfl) ?_
                        have hG := f_bs_l hB11 hG
                        exact x_ri hR hS hP hG dX3_readInto_124
                      · have hG := f_in c95 hG
                        refine lv_aload_n hx hb dX3_readInto_98 rfl (lv_at hl 2 rfl) ?_
                        refine lv_iload_n hx hb dX3_readInto_99 rfl (lv_at hl 4 rfl) ?_
                        obtain ⟨o100, σj100, hT100, hG⟩ := f_bd hG
                        have T100 : ∀ (H : Heap) (locs : List Loc) (ls : Array Slot), f_h E σj100 H → va_S (f_A E) s.heap H locs → lv_has ls 6 [(0, .ref (E.2.1 1)), (1, .ref (E.2.1 k1)), (4, .int x11_4)] → W p l e rm_X3_readInto s m args below meth c H locs 0 0 Q (F0 m 109 ls [.int o100, .ref (E.2.1 k1)]) := by
                          intro H locs ls hP hS hl
                          obtain ⟨r109, σ109, hC109, hG⟩ := f_bd hG
                          refine iv_X3_39 F hS hP (c_X2_kindOf l E N o100 σj100 _ _ hC109) ⟨Nat.le_of_ble_eq_true rfl, Nat.le_of_ble_eq_true rfl⟩ hl.1 (Nat.le_of_ble_eq_true rfl) dX3_readInto_109 ⟨Nat.zero_le _, Nat.zero_le _⟩ (fun H locs hP hS => ?_)
                          obtain ⟨σ112, hC112, hG⟩ := f_bv hG
                          refine iv_X3_44 F hS hP hk1 (c_X0_add l E N k1 r109 hk1 σ109 _ hC112) ⟨Nat.le_of_ble_eq_true rfl, Nat.le_of_ble_eq_true rfl⟩ hl.1 (Nat.le_of_ble_eq_true rfl) dX3_readInto_112 ⟨Nat.zero_le _, Nat.zero_le _⟩ (fun H locs hP hS => ?_)
                          refine lv_iconst (v := 0) hx hb dX3_readInto_115 (by decide) ?_
                          refine lv_istore_n (lv' := [(2, .int (0 : Int32)), (0, .ref (E.2.1 1)), (1, .ref (E.2.1 k1)), (4, .int x11_4)]) hx hb dX3_readInto_116 rfl hl (by decide) rfl (fun ls hl => ?_)
                          refine lv_iconst (v := 0) hx hb dX3_readInto_117 (by decide) ?_
                          refine lv_istore_n (lv' := [(3, .int (0 : Int32)), (2, .int (0 : Int32)), (0, .ref (E.2.1 1)), (1, .ref (E.2.1 k1)), (4, .int x11_4)]) hx hb dX3_readInto_118 rfl hl (by decide) rfl (fun ls hl => ?_)
                          refine lv_goto (tgt := 125) hx hb dX3_readInto_119 (by decide) ?_
                          refine lv_iinc (v := (x11_4 + (1 : Int32))) (lv' := [(4, .int (x11_4 + (1 : Int32))), (3, .int (0 : Int32)), (2, .int (0 : Int32)), (0, .ref (E.2.1 1)), (1, .ref (E.2.1 k1))]) hx hb dX3_readInto_125 hl (k := 4) rfl (by rfl) (by decide) rfl (fun ls hl => ?_)
                          refine lv_goto (tgt := 11) hx hb dX3_readInto_128 (by decide) ?_
                          exact ih11 (0 : Int32) (0 : Int32) (x11_4 + (1 : Int32)) σ112 _ _ _ hP hS (lv_sub hl [3, 4, 2, 1, 0] rfl) hG
                        have hG := hT100
                        clear hT100
                        refine lv_if_eq (tgt := 108) hx hb dX3_readInto_100 (by decide) (fun c100 => ?_) (fun c100 => ?_)
                        · have hG := f_ip c100 hG
                          refine lv_iload_n hx hb dX3_readInto_108 rfl (lv_at hl 3 rfl) ?_
                          cases hG
                          exact T100 _ _ _ hP hS (lv_sub hl [1, 2, 5] rfl)
                        · have hG := f_in c100 hG
                          refine lv_iload_n hx hb dX3_readInto_103 rfl (lv_at hl 3 rfl) ?_
                          refine lv_ineg hx hb dX3_readInto_104 ?_
                          refine lv_goto (tgt := 109) hx hb dX3_readInto_105 (by decide) ?_
                          cases hG
                          exact T100 _ _ _ hP hS (lv_sub hl [1, 2, 5] rfl)
                · have hG := f_ip c71 hG
                  refine lv_iconst (v := 1) hx hb dX3_readInto_74 (by decide) ?_
                  refine lv_istore_n (lv' := [(3, .int (1 : Int32)), (5, .int r23), (0, .ref (E.2.1 1)), (1, .ref (E.2.1 k1)), (2, .int x11_2), (4, .int x11_4)]) hx hb dX3_readInto_75 rfl hl (by decide) rfl (fun ls hl => ?_)
                  refine lv_goto (tgt := 125) hx hb dX3_readInto_76 (by decide) ?_
                  refine lv_iinc (v := (x11_4 + (1 : Int32))) (lv' := [(4, .int (x11_4 + (1 : Int32))), (3, .int (1 : Int32)), (5, .int r23), (0, .ref (E.2.1 1)), (1, .ref (E.2.1 k1)), (2, .int x11_2)]) hx hb dX3_readInto_125 hl (k := 5) rfl (by rfl) (by decide) rfl (fun ls hl => ?_)
                  refine lv_goto (tgt := 11) hx hb dX3_readInto_128 (by decide) ?_
                  exact ih11 x11_2 (1 : Int32) (x11_4 + (1 : Int32)) σ39 _ _ _ hP hS (lv_sub hl [3, 4, 5, 1, 0] rfl) hG
          · have hG := f_in c42 hG
            refine lv_bipush (v := 10) hx hb dX3_readInto_45 (by decide) ?_
            refine lv_iload_n hx hb dX3_readInto_47 rfl (lv_at hl 3 rfl) ?_
            refine lv_imul hx hb dX3_readInto_48 ?_
            refine lv_iload hx hb dX3_readInto_49 (lv_at hl 0 rfl) ?_
            refine lv_iadd hx hb dX3_readInto_51 ?_
            refine lv_bipush (v := 48) hx hb dX3_readInto_52 (by decide) ?_
            refine lv_isub hx hb dX3_readInto_54 ?_
            refine lv_topi (fun v55 e55 => ?_)
            have hG := f_lt hG e55
            refine lv_istore_n (lv' := [(2, .int v55), (5, .int r23), (0, .ref (E.2.1 1)), (1, .ref (E.2.1 k1)), (3, .int x11_3), (4, .int x11_4)]) hx hb dX3_readInto_55 rfl hl (by decide) rfl (fun ls hl => ?_)
            refine lv_goto (tgt := 125) hx hb dX3_readInto_56 (by decide) ?_
            refine lv_iinc (v := (x11_4 + (1 : Int32))) (lv' := [(4, .int (x11_4 + (1 : Int32))), (2, .int v55), (5, .int r23), (0, .ref (E.2.1 1)), (1, .ref (E.2.1 k1)), (3, .int x11_3)]) hx hb dX3_readInto_125 hl (k := 5) rfl (by rfl) (by decide) rfl (fun ls hl => ?_)
            refine lv_goto (tgt := 11) hx hb dX3_readInto_128 (by decide) ?_
            exact ih11 v55 x11_3 (x11_4 + (1 : Int32)) σ39 _ _ _ hP hS (lv_sub hl [3, 4, 1, 5, 0] rfl) hG
  exact L11 N (0 : Int32) (0 : Int32) (0 : Int32) σ1 _ _ _ hP hS (lv_sub hl [3, 4, 2, 1, 0] rfl) hT11
theorem dX4_has_0 : decode cX4_has 0 = .ok (.iload_n 1, 1) := by decide +kernel
theorem dX4_has_1 : decode cX4_has 1 = .ok (.ifCond .lt 21, 3) := by decide +kernel
theorem dX4_has_4 : decode cX4_has 4 = .ok (.iload_n 1, 1) := by decide +kernel
theorem dX4_has_5 : decode cX4_has 5 = .ok (.aload_n 0, 1) := by decide +kernel
theorem dX4_has_6 : decode cX4_has 6 = .ok (.getfield 32, 3) := by decide +kernel
theorem dX4_has_9 : decode cX4_has 9 = .ok (.if_icmp .ge 13, 3) := by decide +kernel
theorem dX4_has_12 : decode cX4_has 12 = .ok (.iload_n 1, 1) := by decide +kernel
theorem dX4_has_13 : decode cX4_has 13 = .ok (.bipush 56, 2) := by decide +kernel
theorem dX4_has_15 : decode cX4_has 15 = .ok (.if_icmp .ge 7, 3) := by decide +kernel
theorem dX4_has_18 : decode cX4_has 18 = .ok (.iconst 1, 1) := by decide +kernel
theorem dX4_has_19 : decode cX4_has 19 = .ok (.goto 4, 3) := by decide +kernel
theorem dX4_has_22 : decode cX4_has 22 = .ok (.iconst 0, 1) := by decide +kernel
theorem dX4_has_23 : decode cX4_has 23 = .ok (.ireturn, 1) := by decide +kernel
set_option maxHeartbeats 4000000 in
set_option maxRecDepth 100000 in
theorem c_X4_has (l : Launch) (E : fEv) (N : Nat) (a1 : Int32) (σ : fS) (r : Int32) (τ : fS) (hG : g_X4_has N a1 σ = some (r, τ)) : fM l E yX4_has (.code yX4_has cX4_has 2 (some .boolean)) rm_X4_has [.ref (E.2.1 9), .int a1] σ τ (some (.int r)) := by
  refine f_openZ (by decide) (Nat.le_of_ble_eq_true rfl) ?_
  intro p e s m below meth c args Q F hR hP ls hl
  have hx := F.1.1
  have hb := F.1.2.1
  have hown := F.1.2.2.2.1
  have hts := F.1.2.2.2.2
  have hS : va_S (f_A E) s.heap s.heap [] := va_S.rf
  skip
  have hl : lv_has ls 2 [(0, .ref (E.2.1 9)), (1, .int a1)] := hl
  unfold g_X4_has at hG
  refine lv_iload_n hx hb dX4_has_0 rfl (lv_at hl 1 rfl) ?_
  refine lv_if_lt (tgt := 22) hx hb dX4_has_1 (by decide) (fun c1 => ?_) (fun c1 => ?_)
  · have hG := f_ip c1 hG
    refine lv_iconst (v := 0) hx hb dX4_has_22 (by decide) ?_
    exact x_rz hR hS hP (Or.inl rfl) hG dX4_has_23
  · have hG := f_in c1 hG
    refine lv_iload_n hx hb dX4_has_4 rfl (lv_at hl 1 rfl) ?_
    refine lv_aload_n hx hb dX4_has_5 rfl (lv_at hl 0 rfl) ?_
    refine gf_X4_32 F hP dX4_has_6 ?_
    refine lv_icmp_ge (tgt := 22) hx hb dX4_has_9 (by decide) (fun c9 => ?_) (fun c9 => ?_)
    · have hG := f_ip c9 hG
      refine lv_iconst (v := 0) hx hb dX4_has_22 (by decide) ?_
      exact x_rz hR hS hP (Or.inl rfl) hG dX4_has_23
    · have hG := f_in c9 hG
      refine lv_iload_n hx hb dX4_has_12 rfl (lv_at hl 1 rfl) ?_
      refine lv_bipush (v := 56) hx hb dX4_has_13 (by decide) ?_
      refine lv_icmp_ge (tgt := 22) hx hb dX4_has_15 (by decide) (fun c15 => ?_) (fun c15 => ?_)
      · have hG := f_ip c15 hG
        refine lv_iconst (v := 0) hx hb dX4_has_22 (by decide) ?_
        exact x_rz hR hS hP (Or.inl rfl) hG dX4_has_23
      · have hG := f_in c15 hG
        refine lv_iconst (v := 1) hx hb dX4_has_18 (by decide) ?_
        refine lv_goto (tgt := 23) hx hb dX4_has_19 (by decide) ?_
        exact x_rz hR hS hP (Or.inr rfl) hG dX4_has_23
theorem dX4_addIfReduced_0 : decode cX4_addIfReduced 0 = .ok (.iload_n 1, 1) := by decide +kernel
theorem dX4_addIfReduced_1 : decode cX4_addIfReduced 1 = .ok (.iload_n 3, 1) := by decide +kernel
theorem dX4_addIfReduced_2 : decode cX4_addIfReduced 2 = .ok (.if_icmp .lt 12, 3) := by decide +kernel
theorem dX4_addIfReduced_5 : decode cX4_addIfReduced 5 = .ok (.iload_n 1, 1) := by decide +kernel
theorem dX4_addIfReduced_6 : decode cX4_addIfReduced 6 = .ok (.iload_n 3, 1) := by decide +kernel
theorem dX4_addIfReduced_7 : decode cX4_addIfReduced 7 = .ok (.if_icmp .ne 11, 3) := by decide +kernel
theorem dX4_addIfReduced_10 : decode cX4_addIfReduced 10 = .ok (.iload_n 2, 1) := by decide +kernel
theorem dX4_addIfReduced_11 : decode cX4_addIfReduced 11 = .ok (.ifCond .lt 7, 3) := by decide +kernel
theorem dX4_addIfReduced_14 : decode cX4_addIfReduced 14 = .ok (.iconst 1, 1) := by decide +kernel
theorem dX4_addIfReduced_15 : decode cX4_addIfReduced 15 = .ok (.goto 4, 3) := by decide +kernel
theorem dX4_addIfReduced_18 : decode cX4_addIfReduced 18 = .ok (.iconst 0, 1) := by decide +kernel
theorem dX4_addIfReduced_19 : decode cX4_addIfReduced 19 = .ok (.istore 4, 2) := by decide +kernel
theorem dX4_addIfReduced_21 : decode cX4_addIfReduced 21 = .ok (.iload_n 1, 1) := by decide +kernel
theorem dX4_addIfReduced_22 : decode cX4_addIfReduced 22 = .ok (.iload_n 2, 1) := by decide +kernel
theorem dX4_addIfReduced_23 : decode cX4_addIfReduced 23 = .ok (.invokestatic 43, 3) := by decide +kernel
theorem dX4_addIfReduced_26 : decode cX4_addIfReduced 26 = .ok (.iload_n 3, 1) := by decide +kernel
theorem dX4_addIfReduced_27 : decode cX4_addIfReduced 27 = .ok (.invokestatic 43, 3) := by decide +kernel
theorem dX4_addIfReduced_30 : decode cX4_addIfReduced 30 = .ok (.istore 5, 2) := by decide +kernel
theorem dX4_addIfReduced_32 : decode cX4_addIfReduced 32 = .ok (.iload 4, 2) := by decide +kernel
theorem dX4_addIfReduced_34 : decode cX4_addIfReduced 34 = .ok (.ifCond .eq 58, 3) := by decide +kernel
theorem dX4_addIfReduced_37 : decode cX4_addIfReduced 37 = .ok (.iload 5, 2) := by decide +kernel
theorem dX4_addIfReduced_39 : decode cX4_addIfReduced 39 = .ok (.iconst 1, 1) := by decide +kernel
theorem dX4_addIfReduced_40 : decode cX4_addIfReduced 40 = .ok (.if_icmp .ne 52, 3) := by decide +kernel
theorem dX4_addIfReduced_43 : decode cX4_addIfReduced 43 = .ok (.aload_n 0, 1) := by decide +kernel
theorem dX4_addIfReduced_44 : decode cX4_addIfReduced 44 = .ok (.getfield 32, 3) := by decide +kernel
theorem dX4_addIfReduced_47 : decode cX4_addIfReduced 47 = .ok (.bipush 56, 2) := by decide +kernel
theorem dX4_addIfReduced_49 : decode cX4_addIfReduced 49 = .ok (.if_icmp .ge 43, 3) := by decide +kernel
theorem dX4_addIfReduced_52 : decode cX4_addIfReduced 52 = .ok (.aload_n 0, 1) := by decide +kernel
theorem dX4_addIfReduced_53 : decode cX4_addIfReduced 53 = .ok (.getfield 11, 3) := by decide +kernel
theorem dX4_addIfReduced_56 : decode cX4_addIfReduced 56 = .ok (.aload_n 0, 1) := by decide +kernel
theorem dX4_addIfReduced_57 : decode cX4_addIfReduced 57 = .ok (.getfield 32, 3) := by decide +kernel
theorem dX4_addIfReduced_60 : decode cX4_addIfReduced 60 = .ok (.iload_n 1, 1) := by decide +kernel
theorem dX4_addIfReduced_61 : decode cX4_addIfReduced 61 = .ok (.iastore, 1) := by decide +kernel
theorem dX4_addIfReduced_62 : decode cX4_addIfReduced 62 = .ok (.aload_n 0, 1) := by decide +kernel
theorem dX4_addIfReduced_63 : decode cX4_addIfReduced 63 = .ok (.getfield 15, 3) := by decide +kernel
theorem dX4_addIfReduced_66 : decode cX4_addIfReduced 66 = .ok (.aload_n 0, 1) := by decide +kernel
theorem dX4_addIfReduced_67 : decode cX4_addIfReduced 67 = .ok (.getfield 32, 3) := by decide +kernel
theorem dX4_addIfReduced_70 : decode cX4_addIfReduced 70 = .ok (.iload_n 2, 1) := by decide +kernel
theorem dX4_addIfReduced_71 : decode cX4_addIfReduced 71 = .ok (.iastore, 1) := by decide +kernel
theorem dX4_addIfReduced_72 : decode cX4_addIfReduced 72 = .ok (.aload_n 0, 1) := by decide +kernel
theorem dX4_addIfReduced_73 : decode cX4_addIfReduced 73 = .ok (.getfield 18, 3) := by decide +kernel
theorem dX4_addIfReduced_76 : decode cX4_addIfReduced 76 = .ok (.aload_n 0, 1) := by decide +kernel
theorem dX4_addIfReduced_77 : decode cX4_addIfReduced 77 = .ok (.getfield 32, 3) := by decide +kernel
theorem dX4_addIfReduced_80 : decode cX4_addIfReduced 80 = .ok (.iload_n 3, 1) := by decide +kernel
theorem dX4_addIfReduced_81 : decode cX4_addIfReduced 81 = .ok (.iastore, 1) := by decide +kernel
theorem dX4_addIfReduced_82 : decode cX4_addIfReduced 82 = .ok (.aload_n 0, 1) := by decide +kernel
theorem dX4_addIfReduced_83 : decode cX4_addIfReduced 83 = .ok (.dup, 1) := by decide +kernel
theorem dX4_addIfReduced_84 : decode cX4_addIfReduced 84 = .ok (.getfield 32, 3) := by decide +kernel
theorem dX4_addIfReduced_87 : decode cX4_addIfReduced 87 = .ok (.iconst 1, 1) := by decide +kernel
theorem dX4_addIfReduced_88 : decode cX4_addIfReduced 88 = .ok (.iadd, 1) := by decide +kernel
theorem dX4_addIfReduced_89 : decode cX4_addIfReduced 89 = .ok (.putfield 32, 3) := by decide +kernel
theorem dX4_addIfReduced_92 : decode cX4_addIfReduced 92 = .ok (.return_, 1) := by decide +kernel
set_option maxHeartbeats 4000000 in
set_option maxRecDepth 100000 in
theorem c_X4_addIfReduced (l : Launch) (E : fEv) (N : Nat) (a1 : Int32) (a2 : Int32) (a3 : Int32) (σ : fS) (τ : fS) (hG : g_X4_addIfReduced N a1 a2 a3 σ = some τ) : fM l E yX4_addIfReduced (.code yX4_addIfReduced cX4_addIfReduced 6 none) rm_X4_addIfReduced [.ref (E.2.1 9), .int a1, .int a2, .int a3] σ τ none := by
  refine f_openV (by decide) (Nat.le_of_ble_eq_true rfl) ?_
  intro p e s m below meth c args Q F hR hP ls hl
  have hx := F.1.1
  have hb := F.1.2.1
  have hown := F.1.2.2.2.1
  have hts := F.1.2.2.2.2
  have hS : va_S (f_A E) s.heap s.heap [] := va_S.rf
  skip
  have hl : lv_has ls 6 [(0, .ref (E.2.1 9)), (1, .int a1), (2, .int a2), (3, .int a3)] := hl
  unfold g_X4_addIfReduced at hG
  refine lv_iload_n hx hb dX4_addIfReduced_0 rfl (lv_at hl 1 rfl) ?_
  refine lv_iload_n hx hb dX4_addIfReduced_1 rfl (lv_at hl 3 rfl) ?_
  obtain ⟨o2, σj2, hT2, hG⟩ := f_bd hG
  have T2 : ∀ (H : Heap) (locs : List Loc) (ls : Array Slot), f_h E σj2 H → va_S (f_A E) s.heap H locs → lv_has ls 6 [(0, .ref (E.2.1 9)), (1, .int a1), (2, .int a2), (3, .int a3)] → W p l e rm_X4_addIfReduced s m args below meth c H locs 0 0 Q (F0 m 19 ls [.int o2]) := by
    intro H locs ls hP hS hl
    refine lv_istore (lv' := [(4, .int o2), (0, .ref (E.2.1 9)), (1, .int a1), (2, .int a2), (3, .int a3)]) hx hb dX4_addIfReduced_19 hl (by decide) rfl (fun ls hl => ?_)
    refine lv_iload_n hx hb dX4_addIfReduced_21 rfl (lv_at hl 2 rfl) ?_
    refine lv_iload_n hx hb dX4_addIfReduced_22 rfl (lv_at hl 3 rfl) ?_
    obtain ⟨r23, σ23, hC23, hG⟩ := f_bd hG
    refine iv_X4_43 F hS hP (c_X2_commonPart l E N a1 a2 σj2 _ _ hC23) ⟨Nat.le_of_ble_eq_true rfl, Nat.le_of_ble_eq_true rfl⟩ hl.1 (Nat.le_of_ble_eq_true rfl) dX4_addIfReduced_23 ⟨Nat.zero_le _, Nat.zero_le _⟩ (fun H locs hP hS => ?_)
    refine lv_iload_n hx hb dX4_addIfReduced_26 rfl (lv_at hl 4 rfl) ?_
    obtain ⟨r27, σ27, hC27, hG⟩ := f_bd hG
    refine iv_X4_43 F hS hP (c_X2_commonPart l E N r23 a3 σ23 _ _ hC27) ⟨Nat.le_of_ble_eq_true rfl, Nat.le_of_ble_eq_true rfl⟩ hl.1 (Nat.le_of_ble_eq_true rfl) dX4_addIfReduced_27 ⟨Nat.zero_le _, Nat.zero_le _⟩ (fun H locs hP hS => ?_)
    refine lv_istore (lv' := [(5, .int r27), (4, .int o2), (0, .ref (E.2.1 9)), (1, .int a1), (2, .int a2), (3, .int a3)]) hx hb dX4_addIfReduced_30 hl (by decide) rfl (fun ls hl => ?_)
    refine lv_iload hx hb dX4_addIfReduced_32 (lv_at hl 1 rfl) ?_
    refine lv_if_eq (tgt := 92) hx hb dX4_addIfReduced_34 (by decide) (fun c34 => ?_) (fun c34 => ?_)
    · have hG := f_ip c34 hG
      exact x_rv hR hS hP hG dX4_addIfReduced_92
    · have hG := f_in c34 hG
      refine lv_iload hx hb dX4_addIfReduced_37 (lv_at hl 0 rfl) ?_
      refine lv_iconst (v := 1) hx hb dX4_addIfReduced_39 (by decide) ?_
      refine lv_icmp_ne (tgt := 92) hx hb dX4_addIfReduced_40 (by decide) (fun c40 => ?_) (fun c40 => ?_)
      · have hG := f_in c40 hG
        exact x_rv hR hS hP hG dX4_addIfReduced_92
      · have hG := f_ip c40 hG
        refine lv_aload_n hx hb dX4_addIfReduced_43 rfl (lv_at hl 2 rfl) ?_
        refine gf_X4_32 F hP dX4_addIfReduced_44 ?_
        refine lv_bipush (v := 56) hx hb dX4_addIfReduced_47 (by decide) ?_
        refine lv_icmp_ge (tgt := 92) hx hb dX4_addIfReduced_49 (by decide) (fun c49 => ?_) (fun c49 => ?_)
        · have hG := f_ip c49 hG
          exact x_rv hR hS hP hG dX4_addIfReduced_92
        · have hG := f_in c49 hG
          refine lv_aload_n hx hb dX4_addIfReduced_52 rfl (lv_at hl 2 rfl) ?_
          refine gf_X4_11 F hP dX4_addIfReduced_53 ?_
          refine lv_aload_n hx hb dX4_addIfReduced_56 rfl (lv_at hl 2 rfl) ?_
          refine gf_X4_32 F hP dX4_addIfReduced_57 ?_
          refine lv_iload_n hx hb dX4_addIfReduced_60 rfl (lv_at hl 3 rfl) ?_
          obtain ⟨h61, hG⟩ := f_gd hG
          have i61 := f_fin h61
          refine x_iast F hS hP rfl rfl i61 dX4_addIfReduced_61 (fun H locs hP hS => ?_)
          obtain ⟨σ61, e61⟩ : ∃ t : fS, t = sI σ27 10 ((σ27.1 9 7)).toNatClampNeg a1 := ⟨_, rfl⟩
          rw [← e61] at hP
          have hG := f_lt hG e61
          refine lv_aload_n hx hb dX4_addIfReduced_62 rfl (lv_at hl 2 rfl) ?_
          refine gf_X4_15 F hP dX4_addIfReduced_63 ?_
          refine lv_aload_n hx hb dX4_addIfReduced_66 rfl (lv_at hl 2 rfl) ?_
          refine gf_X4_32 F hP dX4_addIfReduced_67 ?_
          refine lv_iload_n hx hb dX4_addIfReduced_70 rfl (lv_at hl 4 rfl) ?_
          obtain ⟨h71, hG⟩ := f_gd hG
          have i71 := f_fin h71
          refine x_iast F hS hP rfl rfl i71 dX4_addIfReduced_71 (fun H locs hP hS => ?_)
          obtain ⟨σ71, e71⟩ : ∃ t : fS, t = sI σ61 11 ((σ61.1 9 7)).toNatClampNeg a2 := ⟨_, rfl⟩
          rw [← e71] at hP
          have hG := f_lt hG e71
          refine lv_aload_n hx hb dX4_addIfReduced_72 rfl (lv_at hl 2 rfl) ?_
          refine gf_X4_18 F hP dX4_addIfReduced_73 ?_
          refine lv_aload_n hx hb dX4_addIfReduced_76 rfl (lv_at hl 2 rfl) ?_
          refine gf_X4_32 F hP dX4_addIfReduced_77 ?_
          refine lv_iload_n hx hb dX4_addIfReduced_80 rfl (lv_at hl 5 rfl) ?_
          obtain ⟨h81, hG⟩ := f_gd hG
          have i81 := f_fin h81
          refine x_iast F hS hP rfl rfl i81 dX4_addIfReduced_81 (fun H locs hP hS => ?_)
          obtain ⟨σ81, e81⟩ : ∃ t : fS, t = sI σ71 12 ((σ71.1 9 7)).toNatClampNeg a3 := ⟨_, rfl⟩
          rw [← e81] at hP
          have hG := f_lt hG e81
          refine lv_aload_n hx hb dX4_addIfReduced_82 rfl (lv_at hl 2 rfl) ?_
          refine lv_dup hx hb dX4_addIfReduced_83 rfl ?_
          refine gf_X4_32 F hP dX4_addIfReduced_84 ?_
          refine lv_iconst (v := 1) hx hb dX4_addIfReduced_87 (by decide) ?_
          refine lv_iadd hx hb dX4_addIfReduced_88 ?_
          refine pf_X4_32 F hS hP dX4_addIfReduced_89 (fun H locs hP hS => ?_)
          obtain ⟨σ89, e89⟩ : ∃ t : fS, t = sI σ81 9 7 ((σ81.1 9 7) + (1 : Int32)) := ⟨_, rfl⟩
          rw [← e89] at hP
          have hG := f_lt hG e89
          exact x_rv hR hS hP hG dX4_addIfReduced_92
  have hG := hT2
  clear hT2
  refine lv_icmp_lt (tgt := 14) hx hb dX4_addIfReduced_2 (by decide) (fun c2 => ?_) (fun c2 => ?_)
  · have hG := f_ip c2 hG
    refine lv_iconst (v := 1) hx hb dX4_addIfReduced_14 (by decide) ?_
    refine lv_goto (tgt := 19) hx hb dX4_addIfReduced_15 (by decide) ?_
    cases hG
    exact T2 _ _ _ hP hS (lv_sub hl [0, 1, 2, 3] rfl)
  · have hG := f_in c2 hG
    refine lv_iload_n hx hb dX4_addIfReduced_5 rfl (lv_at hl 1 rfl) ?_
    refine lv_iload_n hx hb dX4_addIfReduced_6 rfl (lv_at hl 3 rfl) ?_
    refine lv_icmp_ne (tgt := 18) hx hb dX4_addIfReduced_7 (by decide) (fun c7 => ?_) (fun c7 => ?_)
    · have hG := f_in c7 hG
      refine lv_iconst (v := 0) hx hb dX4_addIfReduced_18 (by decide) ?_
      cases hG
      exact T2 _ _ _ hP hS (lv_sub hl [0, 1, 2, 3] rfl)
    · have hG := f_ip c7 hG
      refine lv_iload_n hx hb dX4_addIfReduced_10 rfl (lv_at hl 2 rfl) ?_
      refine lv_if_lt (tgt := 18) hx hb dX4_addIfReduced_11 (by decide) (fun c11 => ?_) (fun c11 => ?_)
      · have hG := f_ip c11 hG
        refine lv_iconst (v := 0) hx hb dX4_addIfReduced_18 (by decide) ?_
        cases hG
        exact T2 _ _ _ hP hS (lv_sub hl [0, 1, 2, 3] rfl)
      · have hG := f_in c11 hG
        refine lv_iconst (v := 1) hx hb dX4_addIfReduced_14 (by decide) ?_
        refine lv_goto (tgt := 19) hx hb dX4_addIfReduced_15 (by decide) ?_
        cases hG
        exact T2 _ _ _ hP hS (lv_sub hl [0, 1, 2, 3] rfl)
theorem dJ9_floorMod_7cf53_0 : decode cJ9_floorMod_7cf53 0 = .ok (.iload_n 0, 1) := by decide +kernel
theorem dJ9_floorMod_7cf53_1 : decode cJ9_floorMod_7cf53 1 = .ok (.iload_n 1, 1) := by decide +kernel
theorem dJ9_floorMod_7cf53_2 : decode cJ9_floorMod_7cf53 2 = .ok (.irem, 1) := by decide +kernel
theorem dJ9_floorMod_7cf53_3 : decode cJ9_floorMod_7cf53 3 = .ok (.istore_n 2, 1) := by decide +kernel
theorem dJ9_floorMod_7cf53_4 : decode cJ9_floorMod_7cf53 4 = .ok (.iload_n 0, 1) := by decide +kernel
theorem dJ9_floorMod_7cf53_5 : decode cJ9_floorMod_7cf53 5 = .ok (.iload_n 1, 1) := by decide +kernel
theorem dJ9_floorMod_7cf53_6 : decode cJ9_floorMod_7cf53 6 = .ok (.ixor, 1) := by decide +kernel
theorem dJ9_floorMod_7cf53_7 : decode cJ9_floorMod_7cf53 7 = .ok (.ifCond .ge 11, 3) := by decide +kernel
theorem dJ9_floorMod_7cf53_10 : decode cJ9_floorMod_7cf53 10 = .ok (.iload_n 2, 1) := by decide +kernel
theorem dJ9_floorMod_7cf53_11 : decode cJ9_floorMod_7cf53 11 = .ok (.ifCond .eq 7, 3) := by decide +kernel
theorem dJ9_floorMod_7cf53_14 : decode cJ9_floorMod_7cf53 14 = .ok (.iload_n 2, 1) := by decide +kernel
theorem dJ9_floorMod_7cf53_15 : decode cJ9_floorMod_7cf53 15 = .ok (.iload_n 1, 1) := by decide +kernel
theorem dJ9_floorMod_7cf53_16 : decode cJ9_floorMod_7cf53 16 = .ok (.iadd, 1) := by decide +kernel
theorem dJ9_floorMod_7cf53_17 : decode cJ9_floorMod_7cf53 17 = .ok (.ireturn, 1) := by decide +kernel
theorem dJ9_floorMod_7cf53_18 : decode cJ9_floorMod_7cf53 18 = .ok (.iload_n 2, 1) := by decide +kernel
theorem dJ9_floorMod_7cf53_19 : decode cJ9_floorMod_7cf53 19 = .ok (.ireturn, 1) := by decide +kernel
set_option maxHeartbeats 4000000 in
set_option maxRecDepth 100000 in
theorem c_J9_floorMod_7cf53 (l : Launch) (E : fEv) (N : Nat) (a0 : Int32) (a1 : Int32) (σ : fS) (r : Int32) (τ : fS) (hG : g_J9_floorMod_7cf53 N a0 a1 σ = some (r, τ)) : fM l E yJ9_floorMod_7cf53 (.code yJ9_floorMod_7cf53 cJ9_floorMod_7cf53 3 (some .int)) rm_J9_floorMod_7cf53 [.int a0, .int a1] σ τ (some (.int r)) := by
  refine f_openM (by decide +kernel) (Nat.le_of_ble_eq_true rfl) ?_
  intro p e s m below meth c args Q F hR hP ls hl
  have hx := F.1.1
  have hb := F.1.2.1
  have hown := F.1.2.2.2.1
  have hts := F.1.2.2.2.2
  have hS : va_S (f_A E) s.heap s.heap [] := va_S.rf
  skip
  have hl : lv_has ls 3 [(0, .int a0), (1, .int a1)] := hl
  unfold g_J9_floorMod_7cf53 at hG
  refine lv_iload_n hx hb dJ9_floorMod_7cf53_0 rfl (lv_at hl 0 rfl) ?_
  refine lv_iload_n hx hb dJ9_floorMod_7cf53_1 rfl (lv_at hl 1 rfl) ?_
  obtain ⟨h2, hG⟩ := f_gd hG
  refine x_irem F dJ9_floorMod_7cf53_2 (f_nz h2) ?_
  refine lv_topi (fun v3 e3 => ?_)
  have hG := f_lt hG e3
  refine lv_istore_n (lv' := [(2, .int v3), (0, .int a0), (1, .int a1)]) hx hb dJ9_floorMod_7cf53_3 rfl hl (by decide) rfl (fun ls hl => ?_)
  refine lv_iload_n hx hb dJ9_floorMod_7cf53_4 rfl (lv_at hl 1 rfl) ?_
  refine lv_iload_n hx hb dJ9_floorMod_7cf53_5 rfl (lv_at hl 2 rfl) ?_
  refine lv_ixor hx hb dJ9_floorMod_7cf53_6 ?_
  refine lv_if_ge (tgt := 18) hx hb dJ9_floorMod_7cf53_7 (by decide) (fun c7 => ?_) (fun c7 => ?_)
  · have hG := f_ip c7 hG
    refine lv_iload_n hx hb dJ9_floorMod_7cf53_18 rfl (lv_at hl 0 rfl) ?_
    exact x_ri hR hS hP hG dJ9_floorMod_7cf53_19
  · have hG := f_in c7 hG
    refine lv_iload_n hx hb dJ9_floorMod_7cf53_10 rfl (lv_at hl 0 rfl) ?_
    refine lv_if_eq (tgt := 18) hx hb dJ9_floorMod_7cf53_11 (by decide) (fun c11 => ?_) (fun c11 => ?_)
    · have hG := f_ip c11 hG
      refine lv_iload_n hx hb dJ9_floorMod_7cf53_18 rfl (lv_at hl 0 rfl) ?_
      exact x_ri hR hS hP hG dJ9_floorMod_7cf53_19
    · have hG := f_in c11 hG
      refine lv_iload_n hx hb dJ9_floorMod_7cf53_14 rfl (lv_at hl 0 rfl) ?_
      refine lv_iload_n hx hb dJ9_floorMod_7cf53_15 rfl (lv_at hl 2 rfl) ?_
      refine lv_iadd hx hb dJ9_floorMod_7cf53_16 ?_
      exact x_ri hR hS hP hG dJ9_floorMod_7cf53_17
theorem dX4_isMet_0 : decode cX4_isMet 0 = .ok (.aload_n 0, 1) := by decide +kernel
theorem dX4_isMet_1 : decode cX4_isMet 1 = .ok (.iload_n 1, 1) := by decide +kernel
theorem dX4_isMet_2 : decode cX4_isMet 2 = .ok (.invokevirtual 57, 3) := by decide +kernel
theorem dX4_isMet_5 : decode cX4_isMet 5 = .ok (.ifCond .eq 15, 3) := by decide +kernel
theorem dX4_isMet_8 : decode cX4_isMet 8 = .ok (.iload_n 2, 1) := by decide +kernel
theorem dX4_isMet_9 : decode cX4_isMet 9 = .ok (.ifCond .lt 11, 3) := by decide +kernel
theorem dX4_isMet_12 : decode cX4_isMet 12 = .ok (.iload_n 2, 1) := by decide +kernel
theorem dX4_isMet_13 : decode cX4_isMet 13 = .ok (.aload_n 0, 1) := by decide +kernel
theorem dX4_isMet_14 : decode cX4_isMet 14 = .ok (.getfield 36, 3) := by decide +kernel
theorem dX4_isMet_17 : decode cX4_isMet 17 = .ok (.if_icmp .lt 5, 3) := by decide +kernel
theorem dX4_isMet_20 : decode cX4_isMet 20 = .ok (.iconst 0, 1) := by decide +kernel
theorem dX4_isMet_21 : decode cX4_isMet 21 = .ok (.ireturn, 1) := by decide +kernel
theorem dX4_isMet_22 : decode cX4_isMet 22 = .ok (.aload_n 0, 1) := by decide +kernel
theorem dX4_isMet_23 : decode cX4_isMet 23 = .ok (.getfield 24, 3) := by decide +kernel
theorem dX4_isMet_26 : decode cX4_isMet 26 = .ok (.iload_n 1, 1) := by decide +kernel
theorem dX4_isMet_27 : decode cX4_isMet 27 = .ok (.iconst 3, 1) := by decide +kernel
theorem dX4_isMet_28 : decode cX4_isMet 28 = .ok (.imul, 1) := by decide +kernel
theorem dX4_isMet_29 : decode cX4_isMet 29 = .ok (.iload_n 2, 1) := by decide +kernel
theorem dX4_isMet_30 : decode cX4_isMet 30 = .ok (.bipush 64, 2) := by decide +kernel
theorem dX4_isMet_32 : decode cX4_isMet 32 = .ok (.idiv, 1) := by decide +kernel
theorem dX4_isMet_33 : decode cX4_isMet 33 = .ok (.iadd, 1) := by decide +kernel
theorem dX4_isMet_34 : decode cX4_isMet 34 = .ok (.laload, 1) := by decide +kernel
theorem dX4_isMet_35 : decode cX4_isMet 35 = .ok (.iload_n 2, 1) := by decide +kernel
theorem dX4_isMet_36 : decode cX4_isMet 36 = .ok (.bipush 64, 2) := by decide +kernel
theorem dX4_isMet_38 : decode cX4_isMet 38 = .ok (.irem, 1) := by decide +kernel
theorem dX4_isMet_39 : decode cX4_isMet 39 = .ok (.lshr, 1) := by decide +kernel
theorem dX4_isMet_40 : decode cX4_isMet 40 = .ok (.lconst 1, 1) := by decide +kernel
theorem dX4_isMet_41 : decode cX4_isMet 41 = .ok (.land, 1) := by decide +kernel
theorem dX4_isMet_42 : decode cX4_isMet 42 = .ok (.lconst 1, 1) := by decide +kernel
theorem dX4_isMet_43 : decode cX4_isMet 43 = .ok (.lcmp, 1) := by decide +kernel
theorem dX4_isMet_44 : decode cX4_isMet 44 = .ok (.ifCond .ne 7, 3) := by decide +kernel
theorem dX4_isMet_47 : decode cX4_isMet 47 = .ok (.iconst 1, 1) := by decide +kernel
theorem dX4_isMet_48 : decode cX4_isMet 48 = .ok (.goto 4, 3) := by decide +kernel
theorem dX4_isMet_51 : decode cX4_isMet 51 = .ok (.iconst 0, 1) := by decide +kernel
theorem dX4_isMet_52 : decode cX4_isMet 52 = .ok (.ireturn, 1) := by decide +kernel
set_option maxHeartbeats 4000000 in
set_option maxRecDepth 100000 in
theorem c_X4_isMet (l : Launch) (E : fEv) (N : Nat) (a1 : Int32) (a2 : Int32) (σ : fS) (r : Int32) (τ : fS) (hG : g_X4_isMet N a1 a2 σ = some (r, τ)) : fM l E yX4_isMet (.code yX4_isMet cX4_isMet 3 (some .boolean)) rm_X4_isMet [.ref (E.2.1 9), .int a1, .int a2] σ τ (some (.int r)) := by
  refine f_openZ (by decide) (Nat.le_of_ble_eq_true rfl) ?_
  intro p e s m below meth c args Q F hR hP ls hl
  have hx := F.1.1
  have hb := F.1.2.1
  have hown := F.1.2.2.2.1
  have hts := F.1.2.2.2.2
  have hS : va_S (f_A E) s.heap s.heap [] := va_S.rf
  skip
  have hl : lv_has ls 3 [(0, .ref (E.2.1 9)), (1, .int a1), (2, .int a2)] := hl
  unfold g_X4_isMet at hG
  refine lv_aload_n hx hb dX4_isMet_0 rfl (lv_at hl 0 rfl) ?_
  refine lv_iload_n hx hb dX4_isMet_1 rfl (lv_at hl 1 rfl) ?_
  obtain ⟨r2, σ2, hC2, hG⟩ := f_bd hG
  refine iv_X4_57 F hS hP (c_X4_has l E N a1 σ _ _ hC2) ⟨Nat.le_of_ble_eq_true rfl, Nat.le_of_ble_eq_true rfl⟩ hl.1 (Nat.le_of_ble_eq_true rfl) dX4_isMet_2 ⟨Nat.zero_le _, Nat.zero_le _⟩ (fun H locs hP hS => ?_)
  refine lv_if_eq (tgt := 20) hx hb dX4_isMet_5 (by decide) (fun c5 => ?_) (fun c5 => ?_)
  · have hG := f_ip c5 hG
    refine lv_iconst (v := 0) hx hb dX4_isMet_20 (by decide) ?_
    exact x_rz hR hS hP (Or.inl rfl) hG dX4_isMet_21
  · have hG := f_in c5 hG
    refine lv_iload_n hx hb dX4_isMet_8 rfl (lv_at hl 2 rfl) ?_
    refine lv_if_lt (tgt := 20) hx hb dX4_isMet_9 (by decide) (fun c9 => ?_) (fun c9 => ?_)
    · have hG := f_ip c9 hG
      refine lv_iconst (v := 0) hx hb dX4_isMet_20 (by decide) ?_
      exact x_rz hR hS hP (Or.inl rfl) hG dX4_isMet_21
    · have hG := f_in c9 hG
      refine lv_iload_n hx hb dX4_isMet_12 rfl (lv_at hl 2 rfl) ?_
      refine lv_aload_n hx hb dX4_isMet_13 rfl (lv_at hl 0 rfl) ?_
      refine gf_X4_36 F hP dX4_isMet_14 ?_
      refine lv_icmp_lt (tgt := 22) hx hb dX4_isMet_17 (by decide) (fun c17 => ?_) (fun c17 => ?_)
      · have hG := f_ip c17 hG
        refine lv_aload_n hx hb dX4_isMet_22 rfl (lv_at hl 0 rfl) ?_
        refine gf_X4_24 F hP dX4_isMet_23 ?_
        refine lv_iload_n hx hb dX4_isMet_26 rfl (lv_at hl 1 rfl) ?_
        refine lv_iconst (v := 3) hx hb dX4_isMet_27 (by decide) ?_
        refine lv_imul hx hb dX4_isMet_28 ?_
        refine lv_iload_n hx hb dX4_isMet_29 rfl (lv_at hl 2 rfl) ?_
        refine lv_bipush (v := 64) hx hb dX4_isMet_30 (by decide) ?_
        refine lv_idiv hx hb dX4_isMet_32 (by decide) ?_
        refine lv_iadd hx hb dX4_isMet_33 ?_
        obtain ⟨h34, hG⟩ := f_gd hG
        have i34 := f_fin h34
        refine x_lald F hP rfl rfl i34 dX4_isMet_34 ?_
        refine lv_iload_n hx hb dX4_isMet_35 rfl (lv_at hl 2 rfl) ?_
        refine lv_bipush (v := 64) hx hb dX4_isMet_36 (by decide) ?_
        refine x_irem F dX4_isMet_38 (by decide) ?_
        refine lv_lshr hx hb dX4_isMet_39 rfl ?_
        refine lv_lconst (v := 1) hx hb dX4_isMet_40 (by decide) ?_
        refine lv_land hx hb dX4_isMet_41 ?_
        refine lv_lconst (v := 1) hx hb dX4_isMet_42 (by decide) ?_
        refine W.lcmp hx hb dX4_isMet_43 ?_
        refine lv_if_ne (tgt := 51) hx hb dX4_isMet_44 (by decide) (fun c44 => ?_) (fun c44 => ?_)
        · have hG := f_in c44 hG
          refine lv_iconst (v := 0) hx hb dX4_isMet_51 (by decide) ?_
          exact x_rz hR hS hP (Or.inl rfl) hG dX4_isMet_52
        · have hG := f_ip c44 hG
          refine lv_iconst (v := 1) hx hb dX4_isMet_47 (by decide) ?_
          refine lv_goto (tgt := 52) hx hb dX4_isMet_48 (by decide) ?_
          exact x_rz hR hS hP (Or.inr rfl) hG dX4_isMet_52
      · have hG := f_in c17 hG
        refine lv_iconst (v := 0) hx hb dX4_isMet_20 (by decide) ?_
        exact x_rz hR hS hP (Or.inl rfl) hG dX4_isMet_21
theorem dX4_addWithSquares_0 : decode cX4_addWithSquares 0 = .ok (.iconst 1, 1) := by decide +kernel
theorem dX4_addWithSquares_1 : decode cX4_addWithSquares 1 = .ok (.istore_n 3, 1) := by decide +kernel
theorem dX4_addWithSquares_2 : decode cX4_addWithSquares 2 = .ok (.iload_n 3, 1) := by decide +kernel
theorem dX4_addWithSquares_3 : decode cX4_addWithSquares 3 = .ok (.aload_n 0, 1) := by decide +kernel
theorem dX4_addWithSquares_4 : decode cX4_addWithSquares 4 = .ok (.getfield 36, 3) := by decide +kernel
theorem dX4_addWithSquares_7 : decode cX4_addWithSquares 7 = .ok (.if_icmp .ge 62, 3) := by decide +kernel
theorem dX4_addWithSquares_10 : decode cX4_addWithSquares 10 = .ok (.aload_n 0, 1) := by decide +kernel
theorem dX4_addWithSquares_11 : decode cX4_addWithSquares 11 = .ok (.iload_n 1, 1) := by decide +kernel
theorem dX4_addWithSquares_12 : decode cX4_addWithSquares 12 = .ok (.invokevirtual 57, 3) := by decide +kernel
theorem dX4_addWithSquares_15 : decode cX4_addWithSquares 15 = .ok (.ifCond .eq 54, 3) := by decide +kernel
theorem dX4_addWithSquares_18 : decode cX4_addWithSquares 18 = .ok (.aload_n 0, 1) := by decide +kernel
theorem dX4_addWithSquares_19 : decode cX4_addWithSquares 19 = .ok (.getfield 28, 3) := by decide +kernel
theorem dX4_addWithSquares_22 : decode cX4_addWithSquares 22 = .ok (.iload_n 3, 1) := by decide +kernel
theorem dX4_addWithSquares_23 : decode cX4_addWithSquares 23 = .ok (.baload, 1) := by decide +kernel
theorem dX4_addWithSquares_24 : decode cX4_addWithSquares 24 = .ok (.ifCond .eq 39, 3) := by decide +kernel
theorem dX4_addWithSquares_27 : decode cX4_addWithSquares 27 = .ok (.iload_n 2, 1) := by decide +kernel
theorem dX4_addWithSquares_28 : decode cX4_addWithSquares 28 = .ok (.iload_n 3, 1) := by decide +kernel
theorem dX4_addWithSquares_29 : decode cX4_addWithSquares 29 = .ok (.imul, 1) := by decide +kernel
theorem dX4_addWithSquares_30 : decode cX4_addWithSquares 30 = .ok (.iload_n 3, 1) := by decide +kernel
theorem dX4_addWithSquares_31 : decode cX4_addWithSquares 31 = .ok (.imul, 1) := by decide +kernel
theorem dX4_addWithSquares_32 : decode cX4_addWithSquares 32 = .ok (.aload_n 0, 1) := by decide +kernel
theorem dX4_addWithSquares_33 : decode cX4_addWithSquares 33 = .ok (.getfield 36, 3) := by decide +kernel
theorem dX4_addWithSquares_36 : decode cX4_addWithSquares 36 = .ok (.irem, 1) := by decide +kernel
theorem dX4_addWithSquares_37 : decode cX4_addWithSquares 37 = .ok (.istore 4, 2) := by decide +kernel
theorem dX4_addWithSquares_39 : decode cX4_addWithSquares 39 = .ok (.aload_n 0, 1) := by decide +kernel
theorem dX4_addWithSquares_40 : decode cX4_addWithSquares 40 = .ok (.getfield 24, 3) := by decide +kernel
theorem dX4_addWithSquares_43 : decode cX4_addWithSquares 43 = .ok (.iload_n 1, 1) := by decide +kernel
theorem dX4_addWithSquares_44 : decode cX4_addWithSquares 44 = .ok (.iconst 3, 1) := by decide +kernel
theorem dX4_addWithSquares_45 : decode cX4_addWithSquares 45 = .ok (.imul, 1) := by decide +kernel
theorem dX4_addWithSquares_46 : decode cX4_addWithSquares 46 = .ok (.iload 4, 2) := by decide +kernel
theorem dX4_addWithSquares_48 : decode cX4_addWithSquares 48 = .ok (.bipush 64, 2) := by decide +kernel
theorem dX4_addWithSquares_50 : decode cX4_addWithSquares 50 = .ok (.idiv, 1) := by decide +kernel
theorem dX4_addWithSquares_51 : decode cX4_addWithSquares 51 = .ok (.iadd, 1) := by decide +kernel
theorem dX4_addWithSquares_52 : decode cX4_addWithSquares 52 = .ok (.dup2, 1) := by decide +kernel
theorem dX4_addWithSquares_53 : decode cX4_addWithSquares 53 = .ok (.laload, 1) := by decide +kernel
theorem dX4_addWithSquares_54 : decode cX4_addWithSquares 54 = .ok (.lconst 1, 1) := by decide +kernel
theorem dX4_addWithSquares_55 : decode cX4_addWithSquares 55 = .ok (.iload 4, 2) := by decide +kernel
theorem dX4_addWithSquares_57 : decode cX4_addWithSquares 57 = .ok (.bipush 64, 2) := by decide +kernel
theorem dX4_addWithSquares_59 : decode cX4_addWithSquares 59 = .ok (.irem, 1) := by decide +kernel
theorem dX4_addWithSquares_60 : decode cX4_addWithSquares 60 = .ok (.lshl, 1) := by decide +kernel
theorem dX4_addWithSquares_61 : decode cX4_addWithSquares 61 = .ok (.lor, 1) := by decide +kernel
theorem dX4_addWithSquares_62 : decode cX4_addWithSquares 62 = .ok (.lastore, 1) := by decide +kernel
theorem dX4_addWithSquares_63 : decode cX4_addWithSquares 63 = .ok (.iinc 3 1, 3) := by decide +kernel
theorem dX4_addWithSquares_66 : decode cX4_addWithSquares 66 = .ok (.goto (-64), 3) := by decide +kernel
theorem dX4_addWithSquares_69 : decode cX4_addWithSquares 69 = .ok (.return_, 1) := by decide +kernel
set_option maxHeartbeats 4000000 in
set_option maxRecDepth 100000 in
theorem c_X4_addWithSquares (l : Launch) (E : fEv) (N : Nat) (a1 : Int32) (a2 : Int32) (σ : fS) (τ : fS) (hG : g_X4_addWithSquares N a1 a2 σ = some τ) : fM l E yX4_addWithSquares (.code yX4_addWithSquares cX4_addWithSquares 5 none) rm_X4_addWithSquares [.ref (E.2.1 9), .int a1, .int a2] σ τ none := by
  refine f_openV (by decide) (Nat.le_of_ble_eq_true rfl) ?_
  intro p e s m below meth c args Q F hR hP ls hl
  have hx := F.1.1
  have hb := F.1.2.1
  have hown := F.1.2.2.2.1
  have hts := F.1.2.2.2.2
  have hS : va_S (f_A E) s.heap s.heap [] := va_S.rf
  skip
  have hl : lv_has ls 5 [(0, .ref (E.2.1 9)), (1, .int a1), (2, .int a2)] := hl
  unfold g_X4_addWithSquares at hG
  refine lv_iconst (v := 1) hx hb dX4_addWithSquares_0 (by decide) ?_
  refine lv_istore_n (lv' := [(3, .int (1 : Int32)), (0, .ref (E.2.1 9)), (1, .int a1), (2, .int a2)]) hx hb dX4_addWithSquares_1 rfl hl (by decide) rfl (fun ls hl => ?_)
  obtain ⟨σl2, hT2, hG⟩ := f_bv hG
  have T2 : ∀ (H : Heap) (locs : List Loc) (ls : Array Slot), f_h E σl2 H → va_S (f_A E) s.heap H locs → lv_has ls 5 [] → W p l e rm_X4_addWithSquares s m args below meth c H locs 0 0 Q (F0 m 69 ls []) := by
    intro H locs ls hP hS hl
    exact x_rv hR hS hP hG dX4_addWithSquares_69
  have L2 : ∀ (n2 : Nat) (x2_3 : Int32) (σh2 : fS) (H : Heap) (locs : List Loc) (ls : Array Slot), f_h E σh2 H → va_S (f_A E) s.heap H locs → lv_has ls 5 [(0, .ref (E.2.1 9)), (1, .int a1), (2, .int a2), (3, .int x2_3)] → lp_X4_addWithSquares_2 N a1 a2 n2 x2_3 σh2 = some σl2 → W p l e rm_X4_addWithSquares s m args below meth c H locs 0 0 Q (F0 m 2 ls []) := by
    intro n2
    induction n2 with
    | zero =>
      intro x2_3 σh2 H locs ls hP hS hl hG
      rw [lp_X4_addWithSquares_2] at hG
      cases hG
    | succ n2 ih2 =>
      intro x2_3 σh2 H locs ls hP hS hl hG
      rw [lp_X4_addWithSquares_2] at hG
      refine lv_iload_n hx hb dX4_addWithSquares_2 rfl (lv_at hl 3 rfl) ?_
      refine lv_aload_n hx hb dX4_addWithSquares_3 rfl (lv_at hl 0 rfl) ?_
      refine gf_X4_36 F hP dX4_addWithSquares_4 ?_
      refine lv_icmp_ge (tgt := 69) hx hb dX4_addWithSquares_7 (by decide) (fun c7 => ?_) (fun c7 => ?_)
      · have hG := f_ip c7 hG
        cases hG
        exact T2 _ _ _ hP hS (lv_sub hl [] rfl)
      · have hG := f_in c7 hG
        refine lv_aload_n hx hb dX4_addWithSquares_10 rfl (lv_at hl 0 rfl) ?_
        refine lv_iload_n hx hb dX4_addWithSquares_11 rfl (lv_at hl 1 rfl) ?_
        obtain ⟨r12, σ12, hC12, hG⟩ := f_bd hG
        refine iv_X4_57 F hS hP (c_X4_has l E N a1 σh2 _ _ hC12) ⟨Nat.le_of_ble_eq_true rfl, Nat.le_of_ble_eq_true rfl⟩ hl.1 (Nat.le_of_ble_eq_true rfl) dX4_addWithSquares_12 ⟨Nat.zero_le _, Nat.zero_le _⟩ (fun H locs hP hS => ?_)
        refine lv_if_eq (tgt := 69) hx hb dX4_addWithSquares_15 (by decide) (fun c15 => ?_) (fun c15 => ?_)
        · have hG := f_ip c15 hG
          cases hG
          exact T2 _ _ _ hP hS (lv_sub hl [] rfl)
        · have hG := f_in c15 hG
          refine lv_aload_n hx hb dX4_addWithSquares_18 rfl (lv_at hl 0 rfl) ?_
          refine gf_X4_28 F hP dX4_addWithSquares_19 ?_
          refine lv_iload_n hx hb dX4_addWithSquares_22 rfl (lv_at hl 3 rfl) ?_
          obtain ⟨h23, hG⟩ := f_gd hG
          have i23 := f_fin h23
          refine x_zald F hP rfl rfl i23 dX4_addWithSquares_23 ?_
          refine lv_if_eq (tgt := 63) hx hb dX4_addWithSquares_24 (by decide) (fun c24 => ?_) (fun c24 => ?_)
          · have hG := f_ip c24 hG
            refine lv_iinc (v := (x2_3 + (1 : Int32))) (lv' := [(3, .int (x2_3 + (1 : Int32))), (0, .ref (E.2.1 9)), (1, .int a1), (2, .int a2)]) hx hb dX4_addWithSquares_63 hl (k := 3) rfl (by rfl) (by decide) rfl (fun ls hl => ?_)
            refine lv_goto (tgt := 2) hx hb dX4_addWithSquares_66 (by decide) ?_
            exact ih2 (x2_3 + (1 : Int32)) σ12 _ _ _ hP hS (lv_sub hl [1, 2, 3, 0] rfl) hG
          · have hG := f_in c24 hG
            refine lv_iload_n hx hb dX4_addWithSquares_27 rfl (lv_at hl 2 rfl) ?_
            refine lv_iload_n hx hb dX4_addWithSquares_28 rfl (lv_at hl 3 rfl) ?_
            refine lv_imul hx hb dX4_addWithSquares_29 ?_
            refine lv_iload_n hx hb dX4_addWithSquares_30 rfl (lv_at hl 3 rfl) ?_
            refine lv_imul hx hb dX4_addWithSquares_31 ?_
            refine lv_aload_n hx hb dX4_addWithSquares_32 rfl (lv_at hl 0 rfl) ?_
            refine gf_X4_36 F hP dX4_addWithSquares_33 ?_
            obtain ⟨h36, hG⟩ := f_gd hG
            refine x_irem F dX4_addWithSquares_36 (f_nz h36) ?_
            refine lv_topi (fun v37 e37 => ?_)
            have hG := f_lt hG e37
            refine lv_istore (lv' := [(4, .int v37), (0, .ref (E.2.1 9)), (1, .int a1), (2, .int a2), (3, .int x2_3)]) hx hb dX4_addWithSquares_37 hl (by decide) rfl (fun ls hl => ?_)
            refine lv_aload_n hx hb dX4_addWithSquares_39 rfl (lv_at hl 1 rfl) ?_
            refine gf_X4_24 F hP dX4_addWithSquares_40 ?_
            refine lv_iload_n hx hb dX4_addWithSquares_43 rfl (lv_at hl 2 rfl) ?_
            refine lv_iconst (v := 3) hx hb dX4_addWithSquares_44 (by decide) ?_
            refine lv_imul hx hb dX4_addWithSquares_45 ?_
            refine lv_iload hx hb dX4_addWithSquares_46 (lv_at hl 0 rfl) ?_
            refine lv_bipush (v := 64) hx hb dX4_addWithSquares_48 (by decide) ?_
            refine lv_idiv hx hb dX4_addWithSquares_50 (by decide) ?_
            refine lv_iadd hx hb dX4_addWithSquares_51 ?_
            refine lv_dup2_11 hx hb dX4_addWithSquares_52 rfl rfl ?_
            obtain ⟨h53, hG⟩ := f_gd hG
            have i53 := f_fin h53
            refine x_lald F hP rfl rfl i53 dX4_addWithSquares_53 ?_
            refine lv_lconst (v := 1) hx hb dX4_addWithSquares_54 (by decide) ?_
            refine lv_iload hx hb dX4_addWithSquares_55 (lv_at hl 0 rfl) ?_
            refine lv_bipush (v := 64) hx hb dX4_addWithSquares_57 (by decide) ?_
            refine x_irem F dX4_addWithSquares_59 (by decide) ?_
            refine lv_lshl hx hb dX4_addWithSquares_60 rfl ?_
            refine lv_lor hx hb dX4_addWithSquares_61 ?_
            obtain ⟨h62, hG⟩ := f_gd hG
            have i62 := f_fin h62
            refine x_last F hS hP rfl rfl i62 dX4_addWithSquares_62 (fun H locs hP hS => ?_)
            obtain ⟨σ62, e62⟩ : ∃ t : fS, t = sL σ12 14 (((a1 * (3 : Int32)) + (v37 / (64 : Int32)))).toNatClampNeg ((σ12.2 14 (((a1 * (3 : Int32)) + (v37 / (64 : Int32)))).toNatClampNeg) ||| ((1 : Int64) <<< (((iR v37 (64 : Int32))).toInt64 &&& (63 : Int64)))) := ⟨_, rfl⟩
            rw [← e62] at hP
            have hG := f_lt hG e62
            refine lv_iinc (v := (x2_3 + (1 : Int32))) (lv' := [(3, .int (x2_3 + (1 : Int32))), (4, .int v37), (0, .ref (E.2.1 9)), (1, .int a1), (2, .int a2)]) hx hb dX4_addWithSquares_63 hl (k := 4) rfl (by rfl) (by decide) rfl (fun ls hl => ?_)
            refine lv_goto (tgt := 2) hx hb dX4_addWithSquares_66 (by decide) ?_
            exact ih2 (x2_3 + (1 : Int32)) σ62 _ _ _ hP hS (lv_sub hl [2, 3, 4, 0] rfl) hG
  exact L2 N (1 : Int32) σ _ _ _ hP hS (lv_sub hl [1, 2, 3, 0] rfl) hT2
theorem dX4_findRests_0 : decode cX4_findRests 0 = .ok (.iconst 0, 1) := by decide +kernel
theorem dX4_findRests_1 : decode cX4_findRests 1 = .ok (.istore_n 2, 1) := by decide +kernel
theorem dX4_findRests_2 : decode cX4_findRests 2 = .ok (.iload_n 2, 1) := by decide +kernel
theorem dX4_findRests_3 : decode cX4_findRests 3 = .ok (.iconst 3, 1) := by decide +kernel
theorem dX4_findRests_4 : decode cX4_findRests 4 = .ok (.if_icmp .ge 28, 3) := by decide +kernel
theorem dX4_findRests_7 : decode cX4_findRests 7 = .ok (.aload_n 0, 1) := by decide +kernel
theorem dX4_findRests_8 : decode cX4_findRests 8 = .ok (.iload_n 1, 1) := by decide +kernel
theorem dX4_findRests_9 : decode cX4_findRests 9 = .ok (.invokevirtual 57, 3) := by decide +kernel
theorem dX4_findRests_12 : decode cX4_findRests 12 = .ok (.ifCond .eq 20, 3) := by decide +kernel
theorem dX4_findRests_15 : decode cX4_findRests 15 = .ok (.aload_n 0, 1) := by decide +kernel
theorem dX4_findRests_16 : decode cX4_findRests 16 = .ok (.getfield 24, 3) := by decide +kernel
theorem dX4_findRests_19 : decode cX4_findRests 19 = .ok (.iload_n 1, 1) := by decide +kernel
theorem dX4_findRests_20 : decode cX4_findRests 20 = .ok (.iconst 3, 1) := by decide +kernel
theorem dX4_findRests_21 : decode cX4_findRests 21 = .ok (.imul, 1) := by decide +kernel
theorem dX4_findRests_22 : decode cX4_findRests 22 = .ok (.iload_n 2, 1) := by decide +kernel
theorem dX4_findRests_23 : decode cX4_findRests 23 = .ok (.iadd, 1) := by decide +kernel
theorem dX4_findRests_24 : decode cX4_findRests 24 = .ok (.lconst 0, 1) := by decide +kernel
theorem dX4_findRests_25 : decode cX4_findRests 25 = .ok (.lastore, 1) := by decide +kernel
theorem dX4_findRests_26 : decode cX4_findRests 26 = .ok (.iinc 2 1, 3) := by decide +kernel
theorem dX4_findRests_29 : decode cX4_findRests 29 = .ok (.goto (-27), 3) := by decide +kernel
theorem dX4_findRests_32 : decode cX4_findRests 32 = .ok (.iconst 1, 1) := by decide +kernel
theorem dX4_findRests_33 : decode cX4_findRests 33 = .ok (.istore_n 2, 1) := by decide +kernel
theorem dX4_findRests_34 : decode cX4_findRests 34 = .ok (.iload_n 2, 1) := by decide +kernel
theorem dX4_findRests_35 : decode cX4_findRests 35 = .ok (.aload_n 0, 1) := by decide +kernel
theorem dX4_findRests_36 : decode cX4_findRests 36 = .ok (.getfield 36, 3) := by decide +kernel
theorem dX4_findRests_39 : decode cX4_findRests 39 = .ok (.if_icmp .gt 117, 3) := by decide +kernel
theorem dX4_findRests_42 : decode cX4_findRests 42 = .ok (.aload_n 0, 1) := by decide +kernel
theorem dX4_findRests_43 : decode cX4_findRests 43 = .ok (.iload_n 1, 1) := by decide +kernel
theorem dX4_findRests_44 : decode cX4_findRests 44 = .ok (.invokevirtual 57, 3) := by decide +kernel
theorem dX4_findRests_47 : decode cX4_findRests 47 = .ok (.ifCond .eq 109, 3) := by decide +kernel
theorem dX4_findRests_50 : decode cX4_findRests 50 = .ok (.aload_n 0, 1) := by decide +kernel
theorem dX4_findRests_51 : decode cX4_findRests 51 = .ok (.getfield 36, 3) := by decide +kernel
theorem dX4_findRests_54 : decode cX4_findRests 54 = .ok (.iload_n 2, 1) := by decide +kernel
theorem dX4_findRests_55 : decode cX4_findRests 55 = .ok (.irem, 1) := by decide +kernel
theorem dX4_findRests_56 : decode cX4_findRests 56 = .ok (.ifCond .eq 6, 3) := by decide +kernel
theorem dX4_findRests_59 : decode cX4_findRests 59 = .ok (.goto 91, 3) := by decide +kernel
theorem dX4_findRests_62 : decode cX4_findRests 62 = .ok (.iconst 0, 1) := by decide +kernel
theorem dX4_findRests_63 : decode cX4_findRests 63 = .ok (.istore_n 3, 1) := by decide +kernel
theorem dX4_findRests_64 : decode cX4_findRests 64 = .ok (.iload_n 3, 1) := by decide +kernel
theorem dX4_findRests_65 : decode cX4_findRests 65 = .ok (.aload_n 0, 1) := by decide +kernel
theorem dX4_findRests_66 : decode cX4_findRests 66 = .ok (.getfield 36, 3) := by decide +kernel
theorem dX4_findRests_69 : decode cX4_findRests 69 = .ok (.if_icmp .ge 81, 3) := by decide +kernel
theorem dX4_findRests_72 : decode cX4_findRests 72 = .ok (.aload_n 0, 1) := by decide +kernel
theorem dX4_findRests_73 : decode cX4_findRests 73 = .ok (.getfield 11, 3) := by decide +kernel
theorem dX4_findRests_76 : decode cX4_findRests 76 = .ok (.iload_n 1, 1) := by decide +kernel
theorem dX4_findRests_77 : decode cX4_findRests 77 = .ok (.iaload, 1) := by decide +kernel
theorem dX4_findRests_78 : decode cX4_findRests 78 = .ok (.iload_n 3, 1) := by decide +kernel
theorem dX4_findRests_79 : decode cX4_findRests 79 = .ok (.imul, 1) := by decide +kernel
theorem dX4_findRests_80 : decode cX4_findRests 80 = .ok (.iload_n 3, 1) := by decide +kernel
theorem dX4_findRests_81 : decode cX4_findRests 81 = .ok (.imul, 1) := by decide +kernel
theorem dX4_findRests_82 : decode cX4_findRests 82 = .ok (.aload_n 0, 1) := by decide +kernel
theorem dX4_findRests_83 : decode cX4_findRests 83 = .ok (.getfield 15, 3) := by decide +kernel
theorem dX4_findRests_86 : decode cX4_findRests 86 = .ok (.iload_n 1, 1) := by decide +kernel
theorem dX4_findRests_87 : decode cX4_findRests 87 = .ok (.iaload, 1) := by decide +kernel
theorem dX4_findRests_88 : decode cX4_findRests 88 = .ok (.iload_n 3, 1) := by decide +kernel
theorem dX4_findRests_89 : decode cX4_findRests 89 = .ok (.imul, 1) := by decide +kernel
theorem dX4_findRests_90 : decode cX4_findRests 90 = .ok (.iload_n 2, 1) := by decide +kernel
theorem dX4_findRests_91 : decode cX4_findRests 91 = .ok (.imul, 1) := by decide +kernel
theorem dX4_findRests_92 : decode cX4_findRests 92 = .ok (.iadd, 1) := by decide +kernel
theorem dX4_findRests_93 : decode cX4_findRests 93 = .ok (.aload_n 0, 1) := by decide +kernel
theorem dX4_findRests_94 : decode cX4_findRests 94 = .ok (.getfield 18, 3) := by decide +kernel
theorem dX4_findRests_97 : decode cX4_findRests 97 = .ok (.iload_n 1, 1) := by decide +kernel
theorem dX4_findRests_98 : decode cX4_findRests 98 = .ok (.iaload, 1) := by decide +kernel
theorem dX4_findRests_99 : decode cX4_findRests 99 = .ok (.iload_n 2, 1) := by decide +kernel
theorem dX4_findRests_100 : decode cX4_findRests 100 = .ok (.imul, 1) := by decide +kernel
theorem dX4_findRests_101 : decode cX4_findRests 101 = .ok (.iload_n 2, 1) := by decide +kernel
theorem dX4_findRests_102 : decode cX4_findRests 102 = .ok (.imul, 1) := by decide +kernel
theorem dX4_findRests_103 : decode cX4_findRests 103 = .ok (.iadd, 1) := by decide +kernel
theorem dX4_findRests_104 : decode cX4_findRests 104 = .ok (.istore 4, 2) := by decide +kernel
theorem dX4_findRests_106 : decode cX4_findRests 106 = .ok (.iload 4, 2) := by decide +kernel
theorem dX4_findRests_108 : decode cX4_findRests 108 = .ok (.aload_n 0, 1) := by decide +kernel
theorem dX4_findRests_109 : decode cX4_findRests 109 = .ok (.getfield 36, 3) := by decide +kernel
theorem dX4_findRests_112 : decode cX4_findRests 112 = .ok (.invokestatic 67, 3) := by decide +kernel
theorem dX4_findRests_115 : decode cX4_findRests 115 = .ok (.istore 5, 2) := by decide +kernel
theorem dX4_findRests_117 : decode cX4_findRests 117 = .ok (.aload_n 0, 1) := by decide +kernel
theorem dX4_findRests_118 : decode cX4_findRests 118 = .ok (.getfield 28, 3) := by decide +kernel
theorem dX4_findRests_121 : decode cX4_findRests 121 = .ok (.iload 5, 2) := by decide +kernel
theorem dX4_findRests_123 : decode cX4_findRests 123 = .ok (.baload, 1) := by decide +kernel
theorem dX4_findRests_124 : decode cX4_findRests 124 = .ok (.ifCond .eq 20, 3) := by decide +kernel
theorem dX4_findRests_127 : decode cX4_findRests 127 = .ok (.aload_n 0, 1) := by decide +kernel
theorem dX4_findRests_128 : decode cX4_findRests 128 = .ok (.iload_n 1, 1) := by decide +kernel
theorem dX4_findRests_129 : decode cX4_findRests 129 = .ok (.iload 5, 2) := by decide +kernel
theorem dX4_findRests_131 : decode cX4_findRests 131 = .ok (.invokevirtual 72, 3) := by decide +kernel
theorem dX4_findRests_134 : decode cX4_findRests 134 = .ok (.ifCond .ne 10, 3) := by decide +kernel
theorem dX4_findRests_137 : decode cX4_findRests 137 = .ok (.aload_n 0, 1) := by decide +kernel
theorem dX4_findRests_138 : decode cX4_findRests 138 = .ok (.iload_n 1, 1) := by decide +kernel
theorem dX4_findRests_139 : decode cX4_findRests 139 = .ok (.iload 5, 2) := by decide +kernel
theorem dX4_findRests_141 : decode cX4_findRests 141 = .ok (.invokevirtual 76, 3) := by decide +kernel
theorem dX4_findRests_144 : decode cX4_findRests 144 = .ok (.iinc 3 1, 3) := by decide +kernel
theorem dX4_findRests_147 : decode cX4_findRests 147 = .ok (.goto (-83), 3) := by decide +kernel
theorem dX4_findRests_150 : decode cX4_findRests 150 = .ok (.iinc 2 1, 3) := by decide +kernel
theorem dX4_findRests_153 : decode cX4_findRests 153 = .ok (.goto (-119), 3) := by decide +kernel
theorem dX4_findRests_156 : decode cX4_findRests 156 = .ok (.return_, 1) := by decide +kernel
set_option maxHeartbeats 4000000 in
set_option maxRecDepth 100000 in
theorem c_X4_findRests (l : Launch) (E : fEv) (N : Nat) (a1 : Int32) (σ : fS) (τ : fS) (hG : g_X4_findRests N a1 σ = some τ) : fM l E yX4_findRests (.code yX4_findRests cX4_findRests 6 none) rm_X4_findRests [.ref (E.2.1 9), .int a1] σ τ none := by
  refine f_openV (by decide) (Nat.le_of_ble_eq_true rfl) ?_
  intro p e s m below meth c args Q F hR hP ls hl
  have hx := F.1.1
  have hb := F.1.2.1
  have hown := F.1.2.2.2.1
  have hts := F.1.2.2.2.2
  have hS : va_S (f_A E) s.heap s.heap [] := va_S.rf
  skip
  have hl : lv_has ls 6 [(0, .ref (E.2.1 9)), (1, .int a1)] := hl
  unfold g_X4_findRests at hG
  refine lv_iconst (v := 0) hx hb dX4_findRests_0 (by decide) ?_
  refine lv_istore_n (lv' := [(2, .int (0 : Int32)), (0, .ref (E.2.1 9)), (1, .int a1)]) hx hb dX4_findRests_1 rfl hl (by decide) rfl (fun ls hl => ?_)
  obtain ⟨σl2, hT2, hG⟩ := f_bv hG
  have T2 : ∀ (H : Heap) (locs : List Loc) (ls : Array Slot), f_h E σl2 H → va_S (f_A E) s.heap H locs → lv_has ls 6 [(0, .ref (E.2.1 9)), (1, .int a1)] → W p l e rm_X4_findRests s m args below meth c H locs 0 0 Q (F0 m 32 ls []) := by
    intro H locs ls hP hS hl
    refine lv_iconst (v := 1) hx hb dX4_findRests_32 (by decide) ?_
    refine lv_istore_n (lv' := [(2, .int (1 : Int32)), (0, .ref (E.2.1 9)), (1, .int a1)]) hx hb dX4_findRests_33 rfl hl (by decide) rfl (fun ls hl => ?_)
    obtain ⟨σl34, hT34, hG⟩ := f_bv hG
    have T34 : ∀ (H : Heap) (locs : List Loc) (ls : Array Slot), f_h E σl34 H → va_S (f_A E) s.heap H locs → lv_has ls 6 [] → W p l e rm_X4_findRests s m args below meth c H locs 0 0 Q (F0 m 156 ls []) := by
      intro H locs ls hP hS hl
      exact x_rv hR hS hP hG dX4_findRests_156
    have L34 : ∀ (n34 : Nat) (x34_2 : Int32) (σh34 : fS) (H : Heap) (locs : List Loc) (ls : Array Slot), f_h E σh34 H → va_S (f_A E) s.heap H locs → lv_has ls 6 [(0, .ref (E.2.1 9)), (1, .int a1), (2, .int x34_2)] → lp_X4_findRests_34 N a1 n34 x34_2 σh34 = some σl34 → W p l e rm_X4_findRests s m args below meth c H locs 0 0 Q (F0 m 34 ls []) := by
      intro n34
      induction n34 with
      | zero =>
        intro x34_2 σh34 H locs ls hP hS hl hG
        rw [lp_X4_findRests_34] at hG
        cases hG
      | succ n34 ih34 =>
        intro x34_2 σh34 H locs ls hP hS hl hG
        rw [lp_X4_findRests_34] at hG
        refine lv_iload_n hx hb dX4_findRests_34 rfl (lv_at hl 2 rfl) ?_
        refine lv_aload_n hx hb dX4_findRests_35 rfl (lv_at hl 0 rfl) ?_
        refine gf_X4_36 F hP dX4_findRests_36 ?_
        refine lv_icmp_gt (tgt := 156) hx hb dX4_findRests_39 (by decide) (fun c39 => ?_) (fun c39 => ?_)
        · have hG := f_ip c39 hG
          cases hG
          exact T34 _ _ _ hP hS (lv_sub hl [] rfl)
        · have hG := f_in c39 hG
          refine lv_aload_n hx hb dX4_findRests_42 rfl (lv_at hl 0 rfl) ?_
          refine lv_iload_n hx hb dX4_findRests_43 rfl (lv_at hl 1 rfl) ?_
          obtain ⟨r44, σ44, hC44, hG⟩ := f_bd hG
          refine iv_X4_57 F hS hP (c_X4_has l E N a1 σh34 _ _ hC44) ⟨Nat.le_of_ble_eq_true rfl, Nat.le_of_ble_eq_true rfl⟩ hl.1 (Nat.le_of_ble_eq_true rfl) dX4_findRests_44 ⟨Nat.zero_le _, Nat.zero_le _⟩ (fun H locs hP hS => ?_)
          refine lv_if_eq (tgt := 156) hx hb dX4_findRests_47 (by decide) (fun c47 => ?_) (fun c47 => ?_)
          · have hG := f_ip c47 hG
            cases hG
            exact T34 _ _ _ hP hS (lv_sub hl [] rfl)
          · have hG := f_in c47 hG
            refine lv_aload_n hx hb dX4_findRests_50 rfl (lv_at hl 0 rfl) ?_
            refine gf_X4_36 F hP dX4_findRests_51 ?_
            refine lv_iload_n hx hb dX4_findRests_54 rfl (lv_at hl 2 rfl) ?_
            obtain ⟨h55, hG⟩ := f_gd hG
            refine x_irem F dX4_findRests_55 (f_nz h55) ?_
            refine lv_if_eq (tgt := 62) hx hb dX4_findRests_56 (by decide) (fun c56 => ?_) (fun c56 => ?_)
            · have hG := f_ip c56 hG
              refine lv_iconst (v := 0) hx hb dX4_findRests_62 (by decide) ?_
              refine lv_istore_n (lv' := [(3, .int (0 : Int32)), (0, .ref (E.2.1 9)), (1, .int a1), (2, .int x34_2)]) hx hb dX4_findRests_63 rfl hl (by decide) rfl (fun ls hl => ?_)
              obtain ⟨σl64, hT64, hG⟩ := f_bv hG
              have T64 : ∀ (H : Heap) (locs : List Loc) (ls : Array Slot), f_h E σl64 H → va_S (f_A E) s.heap H locs → lv_has ls 6 [(0, .ref (E.2.1 9)), (1, .int a1), (2, .int x34_2)] → W p l e rm_X4_findRests s m args below meth c H locs 0 0 Q (F0 m 150 ls []) := by
                intro H locs ls hP hS hl
                refine lv_iinc (v := (x34_2 + (1 : Int32))) (lv' := [(2, .int (x34_2 + (1 : Int32))), (0, .ref (E.2.1 9)), (1, .int a1)]) hx hb dX4_findRests_150 hl (k := 2) rfl (by rfl) (by decide) rfl (fun ls hl => ?_)
                refine lv_goto (tgt := 34) hx hb dX4_findRests_153 (by decide) ?_
                exact ih34 (x34_2 + (1 : Int32)) σl64 _ _ _ hP hS (lv_sub hl [1, 2, 0] rfl) hG
              have L64 : ∀ (n64 : Nat) (x64_3 : Int32) (σh64 : fS) (H : Heap) (locs : List Loc) (ls : Array Slot), f_h E σh64 H → va_S (f_A E) s.heap H locs → lv_has ls 6 [(0, .ref (E.2.1 9)), (1, .int a1), (2, .int x34_2), (3, .int x64_3)] → lp_X4_findRests_64 N a1 x34_2 n64 x64_3 σh64 = some σl64 → W p l e rm_X4_findRests s m args below meth c H locs 0 0 Q (F0 m 64 ls []) := by
                intro n64
                induction n64 with
                | zero =>
                  intro x64_3 σh64 H locs ls hP hS hl hG
                  rw [lp_X4_findRests_64] at hG
                  cases hG
                | succ n64 ih64 =>
                  intro x64_3 σh64 H locs ls hP hS hl hG
                  rw [lp_X4_findRests_64] at hG
                  refine lv_iload_n hx hb dX4_findRests_64 rfl (lv_at hl 3 rfl) ?_
                  refine lv_aload_n hx hb dX4_findRests_65 rfl (lv_at hl 0 rfl) ?_
                  refine gf_X4_36 F hP dX4_findRests_66 ?_
                  refine lv_icmp_ge (tgt := 150) hx hb dX4_findRests_69 (by decide) (fun c69 => ?_) (fun c69 => ?_)
                  · have hG := f_ip c69 hG
                    cases hG
                    exact T64 _ _ _ hP hS (lv_sub hl [0, 1, 2] rfl)
                  · have hG := f_in c69 hG
                    refine lv_aload_n hx hb dX4_findRests_72 rfl (lv_at hl 0 rfl) ?_
                    refine gf_X4_11 F hP dX4_findRests_73 ?_
                    refine lv_iload_n hx hb dX4_findRests_76 rfl (lv_at hl 1 rfl) ?_
                    obtain ⟨h77, hG⟩ := f_gd hG
                    have i77 := f_fin h77
                    refine x_iald F hP rfl rfl i77 dX4_findRests_77 ?_
                    refine lv_iload_n hx hb dX4_findRests_78 rfl (lv_at hl 3 rfl) ?_
                    refine lv_imul hx hb dX4_findRests_79 ?_
                    refine lv_iload_n hx hb dX4_findRests_80 rfl (lv_at hl 3 rfl) ?_
                    refine lv_imul hx hb dX4_findRests_81 ?_
                    refine lv_aload_n hx hb dX4_findRests_82 rfl (lv_at hl 0 rfl) ?_
                    refine gf_X4_15 F hP dX4_findRests_83 ?_
                    refine lv_iload_n hx hb dX4_findRests_86 rfl (lv_at hl 1 rfl) ?_
                    obtain ⟨h87, hG⟩ := f_gd hG
                    have i87 := f_fin h87
                    refine x_iald F hP rfl rfl i87 dX4_findRests_87 ?_
                    refine lv_iload_n hx hb dX4_findRests_88 rfl (lv_at hl 3 rfl) ?_
                    refine lv_imul hx hb dX4_findRests_89 ?_
                    refine lv_iload_n hx hb dX4_findRests_90 rfl (lv_at hl 2 rfl) ?_
                    refine lv_imul hx hb dX4_findRests_91 ?_
                    refine lv_iadd hx hb dX4_findRests_92 ?_
                    refine lv_aload_n hx hb dX4_findRests_93 rfl (lv_at hl 0 rfl) ?_
                    refine gf_X4_18 F hP dX4_findRests_94 ?_
                    refine lv_iload_n hx hb dX4_findRests_97 rfl (lv_at hl 1 rfl) ?_
                    obtain ⟨h98, hG⟩ := f_gd hG
                    have i98 := f_fin h98
                    refine x_iald F hP rfl rfl i98 dX4_findRests_98 ?_
                    refine lv_iload_n hx hb dX4_findRests_99 rfl (lv_at hl 2 rfl) ?_
                    refine lv_imul hx hb dX4_findRests_100 ?_
                    refine lv_iload_n hx hb dX4_findRests_101 rfl (lv_at hl 2 rfl) ?_
                    refine lv_imul hx hb dX4_findRests_102 ?_
                    refine lv_iadd hx hb dX4_findRests_103 ?_
                    refine lv_topi (fun v104 e104 => ?_)
                    have hG := f_lt hG e104
                    refine lv_istore (lv' := [(4, .int v104), (0, .ref (E.2.1 9)), (1, .int a1), (2, .int x34_2), (3, .int x64_3)]) hx hb dX4_findRests_104 hl (by decide) rfl (fun ls hl => ?_)
                    refine lv_iload hx hb dX4_findRests_106 (lv_at hl 0 rfl) ?_
                    refine lv_aload_n hx hb dX4_findRests_108 rfl (lv_at hl 1 rfl) ?_
                    refine gf_X4_36 F hP dX4_findRests_109 ?_
                    obtain ⟨r112, σ112, hC112, hG⟩ := f_bd hG
                    refine iv_X4_67 F hS hP (c_J9_floorMod_7cf53 l E N v104 (σh64.1 9 6) σh64 _ _ hC112) ⟨Nat.le_of_ble_eq_true rfl, Nat.le_of_ble_eq_true rfl⟩ hl.1 (Nat.le_of_ble_eq_true rfl) dX4_findRests_112 ⟨Nat.zero_le _, Nat.zero_le _⟩ (fun H locs hP hS => ?_)
                    refine lv_istore (lv' := [(5, .int r112), (4, .int v104), (0, .ref (E.2.1 9)), (1, .int a1), (2, .int x34_2), (3, .int x64_3)]) hx hb dX4_findRests_115 hl (by decide) rfl (fun ls hl => ?_)
                    refine lv_aload_n hx hb dX4_findRests_117 rfl (lv_at hl 2 rfl) ?_
                    refine gf_X4_28 F hP dX4_findRests_118 ?_
                    refine lv_iload hx hb dX4_findRests_121 (lv_at hl 0 rfl) ?_
                    obtain ⟨h123, hG⟩ := f_gd hG
                    have i123 := f_fin h123
                    refine x_zald F hP rfl rfl i123 dX4_findRests_123 ?_
                    refine lv_if_eq (tgt := 144) hx hb dX4_findRests_124 (by decide) (fun c124 => ?_) (fun c124 => ?_)
                    · have hG := f_ip c124 hG
                      refine lv_iinc (v := (x64_3 + (1 : Int32))) (lv' := [(3, .int (x64_3 + (1 : Int32))), (5, .int r112), (4, .int v104), (0, .ref (E.2.1 9)), (1, .int a1), (2, .int x34_2)]) hx hb dX4_findRests_144 hl (k := 5) rfl (by rfl) (by decide) rfl (fun ls hl => ?_)
                      refine lv_goto (tgt := 64) hx hb dX4_findRests_147 (by decide) ?_
                      exact ih64 (x64_3 + (1 : Int32)) σ112 _ _ _ hP hS (lv_sub hl [3, 4, 5, 0] rfl) hG
                    · have hG := f_in c124 hG
                      refine lv_aload_n hx hb dX4_findRests_127 rfl (lv_at hl 2 rfl) ?_
                      refine lv_iload_n hx hb dX4_findRests_128 rfl (lv_at hl 3 rfl) ?_
                      refine lv_iload hx hb dX4_findRests_129 (lv_at hl 0 rfl) ?_
                      obtain ⟨r131, σ131, hC131, hG⟩ := f_bd hG
                      refine iv_X4_72 F hS hP (c_X4_isMet l E N a1 r112 σ112 _ _ hC131) ⟨Nat.le_of_ble_eq_true rfl, Nat.le_of_ble_eq_true rfl⟩ hl.1 (Nat.le_of_ble_eq_true rfl) dX4_findRests_131 ⟨Nat.zero_le _, Nat.zero_le _⟩ (fun H locs hP hS => ?_)
                      refine lv_if_ne (tgt := 144) hx hb dX4_findRests_134 (by decide) (fun c134 => ?_) (fun c134 => ?_)
                      · have hG := f_in c134 hG
                        refine lv_iinc (v := (x64_3 + (1 : Int32))) (lv' := [(3, .int (x64_3 + (1 : Int32))), (5, .int r112), (4, .int v104), (0, .ref (E.2.1 9)), (1, .int a1), (2, .int x34_2)]) hx hb dX4_findRests_144 hl (k := 5) rfl (by rfl) (by decide) rfl (fun ls hl => ?_)
                        refine lv_goto (tgt := 64) hx hb dX4_findRests_147 (by decide) ?_
                        exact ih64 (x64_3 + (1 : Int32)) σ131 _ _ _ hP hS (lv_sub hl [3, 4, 5, 0] rfl) hG
                      · have hG := f_ip c134 hG
                        refine lv_aload_n hx hb dX4_findRests_137 rfl (lv_at hl 2 rfl) ?_
                        refine lv_iload_n hx hb dX4_findRests_138 rfl (lv_at hl 3 rfl) ?_
                        refine lv_iload hx hb dX4_findRests_139 (lv_at hl 0 rfl) ?_
                        obtain ⟨σ141, hC141, hG⟩ := f_bv hG
                        refine iv_X4_76 F hS hP (c_X4_addWithSquares l E N a1 r112 σ131 _ hC141) ⟨Nat.le_of_ble_eq_true rfl, Nat.le_of_ble_eq_true rfl⟩ hl.1 (Nat.le_of_ble_eq_true rfl) dX4_findRests_141 ⟨Nat.zero_le _, Nat.zero_le _⟩ (fun H locs hP hS => ?_)
                        refine lv_iinc (v := (x64_3 + (1 : Int32))) (lv' := [(3, .int (x64_3 + (1 : Int32))), (5, .int r112), (4, .int v104), (0, .ref (E.2.1 9)), (1, .int a1), (2, .int x34_2)]) hx hb dX4_findRests_144 hl (k := 5) rfl (by rfl) (by decide) rfl (fun ls hl => ?_)
                        refine lv_goto (tgt := 64) hx hb dX4_findRests_147 (by decide) ?_
                        exact ih64 (x64_3 + (1 : Int32)) σ141 _ _ _ hP hS (lv_sub hl [3, 4, 5, 0] rfl) hG
              exact L64 N (0 : Int32) σ44 _ _ _ hP hS (lv_sub hl [1, 2, 3, 0] rfl) hT64
            · have hG := f_in c56 hG
              refine lv_goto (tgt := 150) hx hb dX4_findRests_59 (by decide) ?_
              refine lv_iinc (v := (x34_2 + (1 : Int32))) (lv' := [(2, .int (x34_2 + (1 : Int32))), (0, .ref (E.2.1 9)), (1, .int a1)]) hx hb dX4_findRests_150 hl (k := 2) rfl (by rfl) (by decide) rfl (fun ls hl => ?_)
              refine lv_goto (tgt := 34) hx hb dX4_findRests_153 (by decide) ?_
              exact ih34 (x34_2 + (1 : Int32)) σ44 _ _ _ hP hS (lv_sub hl [1, 2, 0] rfl) hG
    exact L34 N (1 : Int32) σl2 _ _ _ hP hS (lv_sub hl [1, 2, 0] rfl) hT34
  have L2 : ∀ (n2 : Nat) (x2_2 : Int32) (σh2 : fS) (H : Heap) (locs : List Loc) (ls : Array Slot), f_h E σh2 H → va_S (f_A E) s.heap H locs → lv_has ls 6 [(0, .ref (E.2.1 9)), (1, .int a1), (2, .int x2_2)] → lp_X4_findRests_2 N a1 n2 x2_2 σh2 = some σl2 → W p l e rm_X4_findRests s m args below meth c H locs 0 0 Q (F0 m 2 ls []) := by
    intro n2
    induction n2 with
    | zero =>
      intro x2_2 σh2 H locs ls hP hS hl hG
      rw [lp_X4_findRests_2] at hG
      cases hG
    | succ n2 ih2 =>
      intro x2_2 σh2 H locs ls hP hS hl hG
      rw [lp_X4_findRests_2] at hG
      refine lv_iload_n hx hb dX4_findRests_2 rfl (lv_at hl 2 rfl) ?_
      refine lv_iconst (v := 3) hx hb dX4_findRests_3 (by decide) ?_
      refine lv_icmp_ge (tgt := 32) hx hb dX4_findRests_4 (by decide) (fun c4 => ?_) (fun c4 => ?_)
      · have hG := f_ip c4 hG
        cases hG
        exact T2 _ _ _ hP hS (lv_sub hl [0, 1] rfl)
      · have hG := f_in c4 hG
        refine lv_aload_n hx hb dX4_findRests_7 rfl (lv_at hl 0 rfl) ?_
        refine lv_iload_n hx hb dX4_findRests_8 rfl (lv_at hl 1 rfl) ?_
        obtain ⟨r9, σ9, hC9, hG⟩ := f_bd hG
        refine iv_X4_57 F hS hP (c_X4_has l E N a1 σh2 _ _ hC9) ⟨Nat.le_of_ble_eq_true rfl, Nat.le_of_ble_eq_true rfl⟩ hl.1 (Nat.le_of_ble_eq_true rfl) dX4_findRests_9 ⟨Nat.zero_le _, Nat.zero_le _⟩ (fun H locs hP hS => ?_)
        refine lv_if_eq (tgt := 32) hx hb dX4_findRests_12 (by decide) (fun c12 => ?_) (fun c12 => ?_)
        · have hG := f_ip c12 hG
          cases hG
          exact T2 _ _ _ hP hS (lv_sub hl [0, 1] rfl)
        · have hG := f_in c12 hG
          refine lv_aload_n hx hb dX4_findRests_15 rfl (lv_at hl 0 rfl) ?_
          refine gf_X4_24 F hP dX4_findRests_16 ?_
          refine lv_iload_n hx hb dX4_findRests_19 rfl (lv_at hl 1 rfl) ?_
          refine lv_iconst (v := 3) hx hb dX4_findRests_20 (by decide) ?_
          refine lv_imul hx hb dX4_findRests_21 ?_
          refine lv_iload_n hx hb dX4_findRests_22 rfl (lv_at hl 2 rfl) ?_
          refine lv_iadd hx hb dX4_findRests_23 ?_
          refine lv_lconst (v := 0) hx hb dX4_findRests_24 (by decide) ?_
          obtain ⟨h25, hG⟩ := f_gd hG
          have i25 := f_fin h25
          refine x_last F hS hP rfl rfl i25 dX4_findRests_25 (fun H locs hP hS => ?_)
          obtain ⟨σ25, e25⟩ : ∃ t : fS, t = sL σ9 14 (((a1 * (3 : Int32)) + x2_2)).toNatClampNeg (0 : Int64) := ⟨_, rfl⟩
          rw [← e25] at hP
          have hG := f_lt hG e25
          refine lv_iinc (v := (x2_2 + (1 : Int32))) (lv' := [(2, .int (x2_2 + (1 : Int32))), (0, .ref (E.2.1 9)), (1, .int a1)]) hx hb dX4_findRests_26 hl (k := 2) rfl (by rfl) (by decide) rfl (fun ls hl => ?_)
          refine lv_goto (tgt := 2) hx hb dX4_findRests_29 (by decide) ?_
          exact ih2 (x2_2 + (1 : Int32)) σ25 _ _ _ hP hS (lv_sub hl [1, 2, 0] rfl) hG
  exact L2 N (0 : Int32) σ _ _ _ hP hS (lv_sub hl [1, 2, 0] rfl) hT2
theorem dX4_meetSame_0 : decode cX4_meetSame 0 = .ok (.iconst 0, 1) := by decide +kernel
theorem dX4_meetSame_1 : decode cX4_meetSame 1 = .ok (.istore_n 3, 1) := by decide +kernel
theorem dX4_meetSame_2 : decode cX4_meetSame 2 = .ok (.iload_n 3, 1) := by decide +kernel
theorem dX4_meetSame_3 : decode cX4_meetSame 3 = .ok (.iconst 3, 1) := by decide +kernel
theorem dX4_meetSame_4 : decode cX4_meetSame 4 = .ok (.if_icmp .ge 51, 3) := by decide +kernel
theorem dX4_meetSame_7 : decode cX4_meetSame 7 = .ok (.aload_n 0, 1) := by decide +kernel
theorem dX4_meetSame_8 : decode cX4_meetSame 8 = .ok (.iload_n 1, 1) := by decide +kernel
theorem dX4_meetSame_9 : decode cX4_meetSame 9 = .ok (.invokevirtual 57, 3) := by decide +kernel
theorem dX4_meetSame_12 : decode cX4_meetSame 12 = .ok (.ifCond .eq 43, 3) := by decide +kernel
theorem dX4_meetSame_15 : decode cX4_meetSame 15 = .ok (.aload_n 0, 1) := by decide +kernel
theorem dX4_meetSame_16 : decode cX4_meetSame 16 = .ok (.iload_n 2, 1) := by decide +kernel
theorem dX4_meetSame_17 : decode cX4_meetSame 17 = .ok (.invokevirtual 57, 3) := by decide +kernel
theorem dX4_meetSame_20 : decode cX4_meetSame 20 = .ok (.ifCond .eq 35, 3) := by decide +kernel
theorem dX4_meetSame_23 : decode cX4_meetSame 23 = .ok (.aload_n 0, 1) := by decide +kernel
theorem dX4_meetSame_24 : decode cX4_meetSame 24 = .ok (.getfield 24, 3) := by decide +kernel
theorem dX4_meetSame_27 : decode cX4_meetSame 27 = .ok (.iload_n 1, 1) := by decide +kernel
theorem dX4_meetSame_28 : decode cX4_meetSame 28 = .ok (.iconst 3, 1) := by decide +kernel
theorem dX4_meetSame_29 : decode cX4_meetSame 29 = .ok (.imul, 1) := by decide +kernel
theorem dX4_meetSame_30 : decode cX4_meetSame 30 = .ok (.iload_n 3, 1) := by decide +kernel
theorem dX4_meetSame_31 : decode cX4_meetSame 31 = .ok (.iadd, 1) := by decide +kernel
theorem dX4_meetSame_32 : decode cX4_meetSame 32 = .ok (.laload, 1) := by decide +kernel
theorem dX4_meetSame_33 : decode cX4_meetSame 33 = .ok (.aload_n 0, 1) := by decide +kernel
theorem dX4_meetSame_34 : decode cX4_meetSame 34 = .ok (.getfield 24, 3) := by decide +kernel
theorem dX4_meetSame_37 : decode cX4_meetSame 37 = .ok (.iload_n 2, 1) := by decide +kernel
theorem dX4_meetSame_38 : decode cX4_meetSame 38 = .ok (.iconst 3, 1) := by decide +kernel
theorem dX4_meetSame_39 : decode cX4_meetSame 39 = .ok (.imul, 1) := by decide +kernel
theorem dX4_meetSame_40 : decode cX4_meetSame 40 = .ok (.iload_n 3, 1) := by decide +kernel
theorem dX4_meetSame_41 : decode cX4_meetSame 41 = .ok (.iadd, 1) := by decide +kernel
theorem dX4_meetSame_42 : decode cX4_meetSame 42 = .ok (.laload, 1) := by decide +kernel
theorem dX4_meetSame_43 : decode cX4_meetSame 43 = .ok (.lcmp, 1) := by decide +kernel
theorem dX4_meetSame_44 : decode cX4_meetSame 44 = .ok (.ifCond .eq 5, 3) := by decide +kernel
theorem dX4_meetSame_47 : decode cX4_meetSame 47 = .ok (.iconst 0, 1) := by decide +kernel
theorem dX4_meetSame_48 : decode cX4_meetSame 48 = .ok (.ireturn, 1) := by decide +kernel
theorem dX4_meetSame_49 : decode cX4_meetSame 49 = .ok (.iinc 3 1, 3) := by decide +kernel
theorem dX4_meetSame_52 : decode cX4_meetSame 52 = .ok (.goto (-50), 3) := by decide +kernel
theorem dX4_meetSame_55 : decode cX4_meetSame 55 = .ok (.iconst 1, 1) := by decide +kernel
theorem dX4_meetSame_56 : decode cX4_meetSame 56 = .ok (.ireturn, 1) := by decide +kernel
set_option maxHeartbeats 4000000 in
set_option maxRecDepth 100000 in
theorem c_X4_meetSame (l : Launch) (E : fEv) (N : Nat) (a1 : Int32) (a2 : Int32) (σ : fS) (r : Int32) (τ : fS) (hG : g_X4_meetSame N a1 a2 σ = some (r, τ)) : fM l E yX4_meetSame (.code yX4_meetSame cX4_meetSame 4 (some .boolean)) rm_X4_meetSame [.ref (E.2.1 9), .int a1, .int a2] σ τ (some (.int r)) := by
  refine f_openZ (by decide) (Nat.le_of_ble_eq_true rfl) ?_
  intro p e s m below meth c args Q F hR hP ls hl
  have hx := F.1.1
  have hb := F.1.2.1
  have hown := F.1.2.2.2.1
  have hts := F.1.2.2.2.2
  have hS : va_S (f_A E) s.heap s.heap [] := va_S.rf
  skip
  have hl : lv_has ls 4 [(0, .ref (E.2.1 9)), (1, .int a1), (2, .int a2)] := hl
  unfold g_X4_meetSame at hG
  refine lv_iconst (v := 0) hx hb dX4_meetSame_0 (by decide) ?_
  refine lv_istore_n (lv' := [(3, .int (0 : Int32)), (0, .ref (E.2.1 9)), (1, .int a1), (2, .int a2)]) hx hb dX4_meetSame_1 rfl hl (by decide) rfl (fun ls hl => ?_)
  obtain ⟨z2, hT2, hB2⟩ := f_bs hG
  have T2 : ∀ (o2 : Unit) (σl2 : fS) (H : Heap) (locs : List Loc) (ls : Array Slot), z2 = .inr (o2, σl2) → f_h E σl2 H → va_S (f_A E) s.heap H locs → lv_has ls 4 [] → W p l e rm_X4_meetSame s m args below meth c H locs 0 0 Q (F0 m 55 ls []) := by
    intro o2 σl2 H locs ls hz hP hS hl
    rw [hz] at hB2
    have hG := hB2
    replace hG := f_bs_r hG
    refine lv_iconst (v := 1) hx hb dX4_meetSame_55 (by decide) ?_
    exact x_rz hR hS hP (Or.inr rfl) hG dX4_meetSame_56
  have L2 : ∀ (n2 : Nat) (x2_3 : Int32) (σh2 : fS) (H : Heap) (locs : List Loc) (ls : Array Slot), f_h E σh2 H → va_S (f_A E) s.heap H locs → lv_has ls 4 [(0, .ref (E.2.1 9)), (1, .int a1), (2, .int a2), (3, .int x2_3)] → lp_X4_meetSame_2 N a1 a2 n2 x2_3 σh2 = some z2 → W p l e rm_X4_meetSame s m args below meth c H locs 0 0 Q (F0 m 2 ls []) := by
    intro n2
    induction n2 with
    | zero =>
      intro x2_3 σh2 H locs ls hP hS hl hG
      rw [lp_X4_meetSame_2] at hG
      cases hG
    | succ n2 ih2 =>
      intro x2_3 σh2 H locs ls hP hS hl hG
      rw [lp_X4_meetSame_2] at hG
      refine lv_iload_n hx hb dX4_meetSame_2 rfl (lv_at hl 3 rfl) ?_
      refine lv_iconst (v := 3) hx hb dX4_meetSame_3 (by decide) ?_
      refine lv_icmp_ge (tgt := 55) hx hb dX4_meetSame_4 (by decide) (fun c4 => ?_) (fun c4 => ?_)
      · have hG := f_ip c4 hG
        exact T2 _ _ _ _ _ (Option.some.inj hG).symm hP hS (lv_sub hl [] rfl)
      · have hG := f_in c4 hG
        refine lv_aload_n hx hb dX4_meetSame_7 rfl (lv_at hl 0 rfl) ?_
        refine lv_iload_n hx hb dX4_meetSame_8 rfl (lv_at hl 1 rfl) ?_
        obtain ⟨r9, σ9, hC9, hG⟩ := f_bd hG
        refine iv_X4_57 F hS hP (c_X4_has l E N a1 σh2 _ _ hC9) ⟨Nat.le_of_ble_eq_true rfl, Nat.le_of_ble_eq_true rfl⟩ hl.1 (Nat.le_of_ble_eq_true rfl) dX4_meetSame_9 ⟨Nat.zero_le _, Nat.zero_le _⟩ (fun H locs hP hS => ?_)
        refine lv_if_eq (tgt := 55) hx hb dX4_meetSame_12 (by decide) (fun c12 => ?_) (fun c12 => ?_)
        · have hG := f_ip c12 hG
          exact T2 _ _ _ _ _ (Option.some.inj hG).symm hP hS (lv_sub hl [] rfl)
        · have hG := f_in c12 hG
          refine lv_aload_n hx hb dX4_meetSame_15 rfl (lv_at hl 0 rfl) ?_
          refine lv_iload_n hx hb dX4_meetSame_16 rfl (lv_at hl 2 rfl) ?_
          obtain ⟨r17, σ17, hC17, hG⟩ := f_bd hG
          refine iv_X4_57 F hS hP (c_X4_has l E N a2 σ9 _ _ hC17) ⟨Nat.le_of_ble_eq_true rfl, Nat.le_of_ble_eq_true rfl⟩ hl.1 (Nat.le_of_ble_eq_true rfl) dX4_meetSame_17 ⟨Nat.zero_le _, Nat.zero_le _⟩ (fun H locs hP hS => ?_)
          refine lv_if_eq (tgt := 55) hx hb dX4_meetSame_20 (by decide) (fun c20 => ?_) (fun c20 => ?_)
          · have hG := f_ip c20 hG
            exact T2 _ _ _ _ _ (Option.some.inj hG).symm hP hS (lv_sub hl [] rfl)
          · have hG := f_in c20 hG
            refine lv_aload_n hx hb dX4_meetSame_23 rfl (lv_at hl 0 rfl) ?_
            refine gf_X4_24 F hP dX4_meetSame_24 ?_
            refine lv_iload_n hx hb dX4_meetSame_27 rfl (lv_at hl 1 rfl) ?_
            refine lv_iconst (v := 3) hx hb dX4_meetSame_28 (by decide) ?_
            refine lv_imul hx hb dX4_meetSame_29 ?_
            refine lv_iload_n hx hb dX4_meetSame_30 rfl (lv_at hl 3 rfl) ?_
            refine lv_iadd hx hb dX4_meetSame_31 ?_
            obtain ⟨h32, hG⟩ := f_gd hG
            have i32 := f_fin h32
            refine x_lald F hP rfl rfl i32 dX4_meetSame_32 ?_
            refine lv_aload_n hx hb dX4_meetSame_33 rfl (lv_at hl 0 rfl) ?_
            refine gf_X4_24 F hP dX4_meetSame_34 ?_
            refine lv_iload_n hx hb dX4_meetSame_37 rfl (lv_at hl 2 rfl) ?_
            refine lv_iconst (v := 3) hx hb dX4_meetSame_38 (by decide) ?_
            refine lv_imul hx hb dX4_meetSame_39 ?_
            refine lv_iload_n hx hb dX4_meetSame_40 rfl (lv_at hl 3 rfl) ?_
            refine lv_iadd hx hb dX4_meetSame_41 ?_
            obtain ⟨h42, hG⟩ := f_gd hG
            have i42 := f_fin h42
            refine x_lald F hP rfl rfl i42 dX4_meetSame_42 ?_
            refine W.lcmp hx hb dX4_meetSame_43 ?_
            refine lv_if_eq (tgt := 49) hx hb dX4_meetSame_44 (by decide) (fun c44 => ?_) (fun c44 => ?_)
            · have hG := f_ip c44 hG
              refine lv_iinc (v := (x2_3 + (1 : Int32))) (lv' := [(3, .int (x2_3 + (1 : Int32))), (0, .ref (E.2.1 9)), (1, .int a1), (2, .int a2)]) hx hb dX4_meetSame_49 hl (k := 3) rfl (by rfl) (by decide) rfl (fun ls hl => ?_)
              refine lv_goto (tgt := 2) hx hb dX4_meetSame_52 (by decide) ?_
              exact ih2 (x2_3 + (1 : Int32)) σ17 _ _ _ hP hS (lv_sub hl [1, 2, 3, 0] rfl) hG
            · have hG := f_in c44 hG
              refine lv_iconst (v := 0) hx hb dX4_meetSame_47 (by decide) ?_
              have hG := f_bs_l hB2 hG
              exact x_rz hR hS hP (Or.inl rfl) hG dX4_meetSame_48
  exact L2 N (0 : Int32) σ _ _ _ hP hS (lv_sub hl [1, 2, 3, 0] rfl) hT2
theorem dX4_leastSame_0 : decode cX4_leastSame 0 = .ok (.iconst 0, 1) := by decide +kernel
theorem dX4_leastSame_1 : decode cX4_leastSame 1 = .ok (.istore_n 2, 1) := by decide +kernel
theorem dX4_leastSame_2 : decode cX4_leastSame 2 = .ok (.iload_n 2, 1) := by decide +kernel
theorem dX4_leastSame_3 : decode cX4_leastSame 3 = .ok (.iload_n 1, 1) := by decide +kernel
theorem dX4_leastSame_4 : decode cX4_leastSame 4 = .ok (.if_icmp .ge 20, 3) := by decide +kernel
theorem dX4_leastSame_7 : decode cX4_leastSame 7 = .ok (.aload_n 0, 1) := by decide +kernel
theorem dX4_leastSame_8 : decode cX4_leastSame 8 = .ok (.iload_n 2, 1) := by decide +kernel
theorem dX4_leastSame_9 : decode cX4_leastSame 9 = .ok (.iload_n 1, 1) := by decide +kernel
theorem dX4_leastSame_10 : decode cX4_leastSame 10 = .ok (.invokevirtual 80, 3) := by decide +kernel
theorem dX4_leastSame_13 : decode cX4_leastSame 13 = .ok (.ifCond .eq 5, 3) := by decide +kernel
theorem dX4_leastSame_16 : decode cX4_leastSame 16 = .ok (.iload_n 2, 1) := by decide +kernel
theorem dX4_leastSame_17 : decode cX4_leastSame 17 = .ok (.ireturn, 1) := by decide +kernel
theorem dX4_leastSame_18 : decode cX4_leastSame 18 = .ok (.iinc 2 1, 3) := by decide +kernel
theorem dX4_leastSame_21 : decode cX4_leastSame 21 = .ok (.goto (-19), 3) := by decide +kernel
theorem dX4_leastSame_24 : decode cX4_leastSame 24 = .ok (.iload_n 1, 1) := by decide +kernel
theorem dX4_leastSame_25 : decode cX4_leastSame 25 = .ok (.ireturn, 1) := by decide +kernel
set_option maxHeartbeats 4000000 in
set_option maxRecDepth 100000 in
theorem c_X4_leastSame (l : Launch) (E : fEv) (N : Nat) (a1 : Int32) (σ : fS) (r : Int32) (τ : fS) (hG : g_X4_leastSame N a1 σ = some (r, τ)) : fM l E yX4_leastSame (.code yX4_leastSame cX4_leastSame 3 (some .int)) rm_X4_leastSame [.ref (E.2.1 9), .int a1] σ τ (some (.int r)) := by
  refine f_openI (by decide) (Nat.le_of_ble_eq_true rfl) ?_
  intro p e s m below meth c args Q F hR hP ls hl
  have hx := F.1.1
  have hb := F.1.2.1
  have hown := F.1.2.2.2.1
  have hts := F.1.2.2.2.2
  have hS : va_S (f_A E) s.heap s.heap [] := va_S.rf
  skip
  have hl : lv_has ls 3 [(0, .ref (E.2.1 9)), (1, .int a1)] := hl
  unfold g_X4_leastSame at hG
  refine lv_iconst (v := 0) hx hb dX4_leastSame_0 (by decide) ?_
  refine lv_istore_n (lv' := [(2, .int (0 : Int32)), (0, .ref (E.2.1 9)), (1, .int a1)]) hx hb dX4_leastSame_1 rfl hl (by decide) rfl (fun ls hl => ?_)
  obtain ⟨z2, hT2, hB2⟩ := f_bs hG
  have T2 : ∀ (o2 : Unit) (σl2 : fS) (H : Heap) (locs : List Loc) (ls : Array Slot), z2 = .inr (o2, σl2) → f_h E σl2 H → va_S (f_A E) s.heap H locs → lv_has ls 3 [(1, .int a1)] → W p l e rm_X4_leastSame s m args below meth c H locs 0 0 Q (F0 m 24 ls []) := by
    intro o2 σl2 H locs ls hz hP hS hl
    rw [hz] at hB2
    have hG := hB2
    replace hG := f_bs_r hG
    refine lv_iload_n hx hb dX4_leastSame_24 rfl (lv_at hl 0 rfl) ?_
    exact x_ri hR hS hP hG dX4_leastSame_25
  have L2 : ∀ (n2 : Nat) (x2_2 : Int32) (σh2 : fS) (H : Heap) (locs : List Loc) (ls : Array Slot), f_h E σh2 H → va_S (f_A E) s.heap H locs → lv_has ls 3 [(0, .ref (E.2.1 9)), (1, .int a1), (2, .int x2_2)] → lp_X4_leastSame_2 N a1 n2 x2_2 σh2 = some z2 → W p l e rm_X4_leastSame s m args below meth c H locs 0 0 Q (F0 m 2 ls []) := by
    intro n2
    induction n2 with
    | zero =>
      intro x2_2 σh2 H locs ls hP hS hl hG
      rw [lp_X4_leastSame_2] at hG
      cases hG
    | succ n2 ih2 =>
      intro x2_2 σh2 H locs ls hP hS hl hG
      rw [lp_X4_leastSame_2] at hG
      refine lv_iload_n hx hb dX4_leastSame_2 rfl (lv_at hl 2 rfl) ?_
      refine lv_iload_n hx hb dX4_leastSame_3 rfl (lv_at hl 1 rfl) ?_
      refine lv_icmp_ge (tgt := 24) hx hb dX4_leastSame_4 (by decide) (fun c4 => ?_) (fun c4 => ?_)
      · have hG := f_ip c4 hG
        exact T2 _ _ _ _ _ (Option.some.inj hG).symm hP hS (lv_sub hl [1] rfl)
      · have hG := f_in c4 hG
        refine lv_aload_n hx hb dX4_leastSame_7 rfl (lv_at hl 0 rfl) ?_
        refine lv_iload_n hx hb dX4_leastSame_8 rfl (lv_at hl 2 rfl) ?_
        refine lv_iload_n hx hb dX4_leastSame_9 rfl (lv_at hl 1 rfl) ?_
        obtain ⟨r10, σ10, hC10, hG⟩ := f_bd hG
        refine iv_X4_80 F hS hP (c_X4_meetSame l E N x2_2 a1 σh2 _ _ hC10) ⟨Nat.le_of_ble_eq_true rfl, Nat.le_of_ble_eq_true rfl⟩ hl.1 (Nat.le_of_ble_eq_true rfl) dX4_leastSame_10 ⟨Nat.zero_le _, Nat.zero_le _⟩ (fun H locs hP hS => ?_)
        refine lv_if_eq (tgt := 18) hx hb dX4_leastSame_13 (by decide) (fun c13 => ?_) (fun c13 => ?_)
        · have hG := f_ip c13 hG
          refine lv_iinc (v := (x2_2 + (1 : Int32))) (lv' := [(2, .int (x2_2 + (1 : Int32))), (0, .ref (E.2.1 9)), (1, .int a1)]) hx hb dX4_leastSame_18 hl (k := 2) rfl (by rfl) (by decide) rfl (fun ls hl => ?_)
          refine lv_goto (tgt := 2) hx hb dX4_leastSame_21 (by decide) ?_
          exact ih2 (x2_2 + (1 : Int32)) σ10 _ _ _ hP hS (lv_sub hl [1, 2, 0] rfl) hG
        · have hG := f_in c13 hG
          refine lv_iload_n hx hb dX4_leastSame_16 rfl (lv_at hl 2 rfl) ?_
          have hG := f_bs_l hB2 hG
          exact x_ri hR hS hP hG dX4_leastSame_17
  exact L2 N (0 : Int32) σ _ _ _ hP hS (lv_sub hl [1, 2, 0] rfl) hT2
theorem dX4_open_0 : decode cX4_open 0 = .ok (.iload_n 1, 1) := by decide +kernel
theorem dX4_open_1 : decode cX4_open 1 = .ok (.iconst 3, 1) := by decide +kernel
theorem dX4_open_2 : decode cX4_open 2 = .ok (.if_icmp .lt 10, 3) := by decide +kernel
theorem dX4_open_5 : decode cX4_open 5 = .ok (.iload_n 1, 1) := by decide +kernel
theorem dX4_open_6 : decode cX4_open 6 = .ok (.sipush 160, 3) := by decide +kernel
theorem dX4_open_9 : decode cX4_open 9 = .ok (.if_icmp .le 4, 3) := by decide +kernel
theorem dX4_open_12 : decode cX4_open 12 = .ok (.return_, 1) := by decide +kernel
theorem dX4_open_13 : decode cX4_open 13 = .ok (.aload_n 0, 1) := by decide +kernel
theorem dX4_open_14 : decode cX4_open 14 = .ok (.iload_n 1, 1) := by decide +kernel
theorem dX4_open_15 : decode cX4_open 15 = .ok (.putfield 36, 3) := by decide +kernel
theorem dX4_open_18 : decode cX4_open 18 = .ok (.aload_n 0, 1) := by decide +kernel
theorem dX4_open_19 : decode cX4_open 19 = .ok (.iconst 0, 1) := by decide +kernel
theorem dX4_open_20 : decode cX4_open 20 = .ok (.putfield 32, 3) := by decide +kernel
theorem dX4_open_23 : decode cX4_open 23 = .ok (.iconst 1, 1) := by decide +kernel
theorem dX4_open_24 : decode cX4_open 24 = .ok (.istore_n 2, 1) := by decide +kernel
theorem dX4_open_25 : decode cX4_open 25 = .ok (.iload_n 2, 1) := by decide +kernel
theorem dX4_open_26 : decode cX4_open 26 = .ok (.aload_n 0, 1) := by decide +kernel
theorem dX4_open_27 : decode cX4_open 27 = .ok (.getfield 36, 3) := by decide +kernel
theorem dX4_open_30 : decode cX4_open 30 = .ok (.if_icmp .gt 69, 3) := by decide +kernel
theorem dX4_open_33 : decode cX4_open 33 = .ok (.iconst 3, 1) := by decide +kernel
theorem dX4_open_34 : decode cX4_open 34 = .ok (.iload_n 2, 1) := by decide +kernel
theorem dX4_open_35 : decode cX4_open 35 = .ok (.imul, 1) := by decide +kernel
theorem dX4_open_36 : decode cX4_open 36 = .ok (.iload_n 2, 1) := by decide +kernel
theorem dX4_open_37 : decode cX4_open 37 = .ok (.imul, 1) := by decide +kernel
theorem dX4_open_38 : decode cX4_open 38 = .ok (.aload_n 0, 1) := by decide +kernel
theorem dX4_open_39 : decode cX4_open 39 = .ok (.getfield 36, 3) := by decide +kernel
theorem dX4_open_42 : decode cX4_open 42 = .ok (.if_icmp .gt 57, 3) := by decide +kernel
theorem dX4_open_45 : decode cX4_open 45 = .ok (.iconst 1, 1) := by decide +kernel
theorem dX4_open_46 : decode cX4_open 46 = .ok (.iload_n 2, 1) := by decide +kernel
theorem dX4_open_47 : decode cX4_open 47 = .ok (.isub, 1) := by decide +kernel
theorem dX4_open_48 : decode cX4_open 48 = .ok (.istore_n 3, 1) := by decide +kernel
theorem dX4_open_49 : decode cX4_open 49 = .ok (.iload_n 3, 1) := by decide +kernel
theorem dX4_open_50 : decode cX4_open 50 = .ok (.iload_n 2, 1) := by decide +kernel
theorem dX4_open_51 : decode cX4_open 51 = .ok (.if_icmp .gt 42, 3) := by decide +kernel
theorem dX4_open_54 : decode cX4_open 54 = .ok (.aload_n 0, 1) := by decide +kernel
theorem dX4_open_55 : decode cX4_open 55 = .ok (.getfield 36, 3) := by decide +kernel
theorem dX4_open_58 : decode cX4_open 58 = .ok (.iload_n 3, 1) := by decide +kernel
theorem dX4_open_59 : decode cX4_open 59 = .ok (.iload_n 3, 1) := by decide +kernel
theorem dX4_open_60 : decode cX4_open 60 = .ok (.imul, 1) := by decide +kernel
theorem dX4_open_61 : decode cX4_open 61 = .ok (.iadd, 1) := by decide +kernel
theorem dX4_open_62 : decode cX4_open 62 = .ok (.iconst 4, 1) := by decide +kernel
theorem dX4_open_63 : decode cX4_open 63 = .ok (.iload_n 2, 1) := by decide +kernel
theorem dX4_open_64 : decode cX4_open 64 = .ok (.imul, 1) := by decide +kernel
theorem dX4_open_65 : decode cX4_open 65 = .ok (.irem, 1) := by decide +kernel
theorem dX4_open_66 : decode cX4_open 66 = .ok (.ifCond .ne 21, 3) := by decide +kernel
theorem dX4_open_69 : decode cX4_open 69 = .ok (.aload_n 0, 1) := by decide +kernel
theorem dX4_open_70 : decode cX4_open 70 = .ok (.iload_n 2, 1) := by decide +kernel
theorem dX4_open_71 : decode cX4_open 71 = .ok (.iload_n 3, 1) := by decide +kernel
theorem dX4_open_72 : decode cX4_open 72 = .ok (.aload_n 0, 1) := by decide +kernel
theorem dX4_open_73 : decode cX4_open 73 = .ok (.getfield 36, 3) := by decide +kernel
theorem dX4_open_76 : decode cX4_open 76 = .ok (.iload_n 3, 1) := by decide +kernel
theorem dX4_open_77 : decode cX4_open 77 = .ok (.iload_n 3, 1) := by decide +kernel
theorem dX4_open_78 : decode cX4_open 78 = .ok (.imul, 1) := by decide +kernel
theorem dX4_open_79 : decode cX4_open 79 = .ok (.iadd, 1) := by decide +kernel
theorem dX4_open_80 : decode cX4_open 80 = .ok (.iconst 4, 1) := by decide +kernel
theorem dX4_open_81 : decode cX4_open 81 = .ok (.iload_n 2, 1) := by decide +kernel
theorem dX4_open_82 : decode cX4_open 82 = .ok (.imul, 1) := by decide +kernel
theorem dX4_open_83 : decode cX4_open 83 = .ok (.idiv, 1) := by decide +kernel
theorem dX4_open_84 : decode cX4_open 84 = .ok (.invokevirtual 39, 3) := by decide +kernel
theorem dX4_open_87 : decode cX4_open 87 = .ok (.iinc 3 1, 3) := by decide +kernel
theorem dX4_open_90 : decode cX4_open 90 = .ok (.goto (-41), 3) := by decide +kernel
theorem dX4_open_93 : decode cX4_open 93 = .ok (.iinc 2 1, 3) := by decide +kernel
theorem dX4_open_96 : decode cX4_open 96 = .ok (.goto (-71), 3) := by decide +kernel
theorem dX4_open_99 : decode cX4_open 99 = .ok (.iconst 0, 1) := by decide +kernel
theorem dX4_open_100 : decode cX4_open 100 = .ok (.istore_n 2, 1) := by decide +kernel
theorem dX4_open_101 : decode cX4_open 101 = .ok (.iload_n 2, 1) := by decide +kernel
theorem dX4_open_102 : decode cX4_open 102 = .ok (.aload_n 0, 1) := by decide +kernel
theorem dX4_open_103 : decode cX4_open 103 = .ok (.getfield 36, 3) := by decide +kernel
theorem dX4_open_106 : decode cX4_open 106 = .ok (.if_icmp .ge 32, 3) := by decide +kernel
theorem dX4_open_109 : decode cX4_open 109 = .ok (.aload_n 0, 1) := by decide +kernel
theorem dX4_open_110 : decode cX4_open 110 = .ok (.getfield 28, 3) := by decide +kernel
theorem dX4_open_113 : decode cX4_open 113 = .ok (.iload_n 2, 1) := by decide +kernel
theorem dX4_open_114 : decode cX4_open 114 = .ok (.iload_n 2, 1) := by decide +kernel
theorem dX4_open_115 : decode cX4_open 115 = .ok (.aload_n 0, 1) := by decide +kernel
theorem dX4_open_116 : decode cX4_open 116 = .ok (.getfield 36, 3) := by decide +kernel
theorem dX4_open_119 : decode cX4_open 119 = .ok (.invokestatic 43, 3) := by decide +kernel
theorem dX4_open_122 : decode cX4_open 122 = .ok (.iconst 1, 1) := by decide +kernel
theorem dX4_open_123 : decode cX4_open 123 = .ok (.if_icmp .ne 7, 3) := by decide +kernel
theorem dX4_open_126 : decode cX4_open 126 = .ok (.iconst 1, 1) := by decide +kernel
theorem dX4_open_127 : decode cX4_open 127 = .ok (.goto 4, 3) := by decide +kernel
theorem dX4_open_130 : decode cX4_open 130 = .ok (.iconst 0, 1) := by decide +kernel
theorem dX4_open_131 : decode cX4_open 131 = .ok (.bastore, 1) := by decide +kernel
theorem dX4_open_132 : decode cX4_open 132 = .ok (.iinc 2 1, 3) := by decide +kernel
theorem dX4_open_135 : decode cX4_open 135 = .ok (.goto (-34), 3) := by decide +kernel
theorem dX4_open_138 : decode cX4_open 138 = .ok (.iconst 0, 1) := by decide +kernel
theorem dX4_open_139 : decode cX4_open 139 = .ok (.istore_n 2, 1) := by decide +kernel
theorem dX4_open_140 : decode cX4_open 140 = .ok (.iload_n 2, 1) := by decide +kernel
theorem dX4_open_141 : decode cX4_open 141 = .ok (.aload_n 0, 1) := by decide +kernel
theorem dX4_open_142 : decode cX4_open 142 = .ok (.getfield 32, 3) := by decide +kernel
theorem dX4_open_145 : decode cX4_open 145 = .ok (.if_icmp .ge 31, 3) := by decide +kernel
theorem dX4_open_148 : decode cX4_open 148 = .ok (.iload_n 2, 1) := by decide +kernel
theorem dX4_open_149 : decode cX4_open 149 = .ok (.bipush 56, 2) := by decide +kernel
theorem dX4_open_151 : decode cX4_open 151 = .ok (.if_icmp .ge 25, 3) := by decide +kernel
theorem dX4_open_154 : decode cX4_open 154 = .ok (.aload_n 0, 1) := by decide +kernel
theorem dX4_open_155 : decode cX4_open 155 = .ok (.iload_n 2, 1) := by decide +kernel
theorem dX4_open_156 : decode cX4_open 156 = .ok (.invokevirtual 49, 3) := by decide +kernel
theorem dX4_open_159 : decode cX4_open 159 = .ok (.aload_n 0, 1) := by decide +kernel
theorem dX4_open_160 : decode cX4_open 160 = .ok (.getfield 21, 3) := by decide +kernel
theorem dX4_open_163 : decode cX4_open 163 = .ok (.iload_n 2, 1) := by decide +kernel
theorem dX4_open_164 : decode cX4_open 164 = .ok (.aload_n 0, 1) := by decide +kernel
theorem dX4_open_165 : decode cX4_open 165 = .ok (.iload_n 2, 1) := by decide +kernel
theorem dX4_open_166 : decode cX4_open 166 = .ok (.invokevirtual 53, 3) := by decide +kernel
theorem dX4_open_169 : decode cX4_open 169 = .ok (.iastore, 1) := by decide +kernel
theorem dX4_open_170 : decode cX4_open 170 = .ok (.iinc 2 1, 3) := by decide +kernel
theorem dX4_open_173 : decode cX4_open 173 = .ok (.goto (-33), 3) := by decide +kernel
theorem dX4_open_176 : decode cX4_open 176 = .ok (.return_, 1) := by decide +kernel
set_option maxHeartbeats 4000000 in
set_option maxRecDepth 100000 in
theorem c_X4_open (l : Launch) (E : fEv) (N : Nat) (a1 : Int32) (σ : fS) (τ : fS) (hG : g_X4_open N a1 σ = some τ) : fM l E yX4_open (.code yX4_open cX4_open 4 none) rm_X4_open [.ref (E.2.1 9), .int a1] σ τ none := by
  refine f_openV (by decide) (Nat.le_of_ble_eq_true rfl) ?_
  intro p e s m below meth c args Q F hR hP ls hl
  have hx := F.1.1
  have hb := F.1.2.1
  have hown := F.1.2.2.2.1
  have hts := F.1.2.2.2.2
  have hS : va_S (f_A E) s.heap s.heap [] := va_S.rf
  skip
  have hl : lv_has ls 4 [(0, .ref (E.2.1 9)), (1, .int a1)] := hl
  unfold g_X4_open at hG
  refine lv_iload_n hx hb dX4_open_0 rfl (lv_at hl 1 rfl) ?_
  refine lv_iconst (v := 3) hx hb dX4_open_1 (by decide) ?_
  refine lv_icmp_lt (tgt := 12) hx hb dX4_open_2 (by decide) (fun c2 => ?_) (fun c2 => ?_)
  · have hG := f_ip c2 hG
    exact x_rv hR hS hP hG dX4_open_12
  · have hG := f_in c2 hG
    refine lv_iload_n hx hb dX4_open_5 rfl (lv_at hl 1 rfl) ?_
    refine lv_sipush (v := 160) hx hb dX4_open_6 (by decide) ?_
    refine lv_icmp_le (tgt := 13) hx hb dX4_open_9 (by decide) (fun c9 => ?_) (fun c9 => ?_)
    · have hG := f_ip c9 hG
      refine lv_aload_n hx hb dX4_open_13 rfl (lv_at hl 0 rfl) ?_
      refine lv_iload_n hx hb dX4_open_14 rfl (lv_at hl 1 rfl) ?_
      refine pf_X4_36 F hS hP dX4_open_15 (fun H locs hP hS => ?_)
      obtain ⟨σ15, e15⟩ : ∃ t : fS, t = sI σ 9 6 a1 := ⟨_, rfl⟩
      rw [← e15] at hP
      have hG := f_lt hG e15
      refine lv_aload_n hx hb dX4_open_18 rfl (lv_at hl 0 rfl) ?_
      refine lv_iconst (v := 0) hx hb dX4_open_19 (by decide) ?_
      refine pf_X4_32 F hS hP dX4_open_20 (fun H locs hP hS => ?_)
      obtain ⟨σ20, e20⟩ : ∃ t : fS, t = sI σ15 9 7 (0 : Int32) := ⟨_, rfl⟩
      rw [← e20] at hP
      have hG := f_lt hG e20
      refine lv_iconst (v := 1) hx hb dX4_open_23 (by decide) ?_
      refine lv_istore_n (lv' := [(2, .int (1 : Int32)), (0, .ref (E.2.1 9)), (1, .int a1)]) hx hb dX4_open_24 rfl hl (by decide) rfl (fun ls hl => ?_)
      obtain ⟨σl25, hT25, hG⟩ := f_bv hG
      have T25 : ∀ (H : Heap) (locs : List Loc) (ls : Array Slot), f_h E σl25 H → va_S (f_A E) s.heap H locs → lv_has ls 4 [(0, .ref (E.2.1 9))] → W p l e rm_X4_open s m args below meth c H locs 0 0 Q (F0 m 99 ls []) := by
        intro H locs ls hP hS hl
        refine lv_iconst (v := 0) hx hb dX4_open_99 (by decide) ?_
        refine lv_istore_n (lv' := [(2, .int (0 : Int32)), (0, .ref (E.2.1 9))]) hx hb dX4_open_100 rfl hl (by decide) rfl (fun ls hl => ?_)
        obtain ⟨σl101, hT101, hG⟩ := f_bv hG
        have T101 : ∀ (H : Heap) (locs : List Loc) (ls : Array Slot), f_h E σl101 H → va_S (f_A E) s.heap H locs → lv_has ls 4 [(0, .ref (E.2.1 9))] → W p l e rm_X4_open s m args below meth c H locs 0 0 Q (F0 m 138 ls []) := by
          intro H locs ls hP hS hl
          refine lv_iconst (v := 0) hx hb dX4_open_138 (by decide) ?_
          refine lv_istore_n (lv' := [(2, .int (0 : Int32)), (0, .ref (E.2.1 9))]) hx hb dX4_open_139 rfl hl (by decide) rfl (fun ls hl => ?_)
          obtain ⟨σl140, hT140, hG⟩ := f_bv hG
          have T140 : ∀ (H : Heap) (locs : List Loc) (ls : Array Slot), f_h E σl140 H → va_S (f_A E) s.heap H locs → lv_has ls 4 [] → W p l e rm_X4_open s m args below meth c H locs 0 0 Q (F0 m 176 ls []) := by
            intro H locs ls hP hS hl
            exact x_rv hR hS hP hG dX4_open_176
          have L140 : ∀ (n140 : Nat) (x140_2 : Int32) (σh140 : fS) (H : Heap) (locs : List Loc) (ls : Array Slot), f_h E σh140 H → va_S (f_A E) s.heap H locs → lv_has ls 4 [(0, .ref (E.2.1 9)), (2, .int x140_2)] → lp_X4_open_140 N n140 x140_2 σh140 = some σl140 → W p l e rm_X4_open s m args below meth c H locs 0 0 Q (F0 m 140 ls []) := by
            intro n140
            induction n140 with
            | zero =>
              intro x140_2 σh140 H locs ls hP hS hl hG
              rw [lp_X4_open_140] at hG
              cases hG
            | succ n140 ih140 =>
              intro x140_2 σh140 H locs ls hP hS hl hG
              rw [lp_X4_open_140] at hG
              refine lv_iload_n hx hb dX4_open_140 rfl (lv_at hl 1 rfl) ?_
              refine lv_aload_n hx hb dX4_open_141 rfl (lv_at hl 0 rfl) ?_
              refine gf_X4_32 F hP dX4_open_142 ?_
              refine lv_icmp_ge (tgt := 176) hx hb dX4_open_145 (by decide) (fun c145 => ?_) (fun c145 => ?_)
              · have hG := f_ip c145 hG
                cases hG
                exact T140 _ _ _ hP hS (lv_sub hl [] rfl)
              · have hG := f_in c145 hG
                refine lv_iload_n hx hb dX4_open_148 rfl (lv_at hl 1 rfl) ?_
                refine lv_bipush (v := 56) hx hb dX4_open_149 (by decide) ?_
                refine lv_icmp_ge (tgt := 176) hx hb dX4_open_151 (by decide) (fun c151 => ?_) (fun c151 => ?_)
                · have hG := f_ip c151 hG
                  cases hG
                  exact T140 _ _ _ hP hS (lv_sub hl [] rfl)
                · have hG := f_in c151 hG
                  refine lv_aload_n hx hb dX4_open_154 rfl (lv_at hl 0 rfl) ?_
                  refine lv_iload_n hx hb dX4_open_155 rfl (lv_at hl 1 rfl) ?_
                  obtain ⟨σ156, hC156, hG⟩ := f_bv hG
                  refine iv_X4_49 F hS hP (c_X4_findRests l E N x140_2 σh140 _ hC156) ⟨Nat.le_of_ble_eq_true rfl, Nat.le_of_ble_eq_true rfl⟩ hl.1 (Nat.le_of_ble_eq_true rfl) dX4_open_156 ⟨Nat.zero_le _, Nat.zero_le _⟩ (fun H locs hP hS => ?_)
                  refine lv_aload_n hx hb dX4_open_159 rfl (lv_at hl 0 rfl) ?_
                  refine gf_X4_21 F hP dX4_open_160 ?_
                  refine lv_iload_n hx hb dX4_open_163 rfl (lv_at hl 1 rfl) ?_
                  refine lv_aload_n hx hb dX4_open_164 rfl (lv_at hl 0 rfl) ?_
                  refine lv_iload_n hx hb dX4_open_165 rfl (lv_at hl 1 rfl) ?_
                  obtain ⟨r166, σ166, hC166, hG⟩ := f_bd hG
                  refine iv_X4_53 F hS hP (c_X4_leastSame l E N x140_2 σ156 _ _ hC166) ⟨Nat.le_of_ble_eq_true rfl, Nat.le_of_ble_eq_true rfl⟩ hl.1 (Nat.le_of_ble_eq_true rfl) dX4_open_166 ⟨Nat.zero_le _, Nat.zero_le _⟩ (fun H locs hP hS => ?_)
                  obtain ⟨h169, hG⟩ := f_gd hG
                  have i169 := f_fin h169
                  refine x_iast F hS hP rfl rfl i169 dX4_open_169 (fun H locs hP hS => ?_)
                  obtain ⟨σ169, e169⟩ : ∃ t : fS, t = sI σ166 13 (x140_2).toNatClampNeg r166 := ⟨_, rfl⟩
                  rw [← e169] at hP
                  have hG := f_lt hG e169
                  refine lv_iinc (v := (x140_2 + (1 : Int32))) (lv' := [(2, .int (x140_2 + (1 : Int32))), (0, .ref (E.2.1 9))]) hx hb dX4_open_170 hl (k := 1) rfl (by rfl) (by decide) rfl (fun ls hl => ?_)
                  refine lv_goto (tgt := 140) hx hb dX4_open_173 (by decide) ?_
                  exact ih140 (x140_2 + (1 : Int32)) σ169 _ _ _ hP hS (lv_sub hl [1, 0] rfl) hG
          exact L140 N (0 : Int32) σl101 _ _ _ hP hS (lv_sub hl [1, 0] rfl) hT140
        have L101 : ∀ (n101 : Nat) (x101_2 : Int32) (σh101 : fS) (H : Heap) (locs : List Loc) (ls : Array Slot), f_h E σh101 H → va_S (f_A E) s.heap H locs → lv_has ls 4 [(0, .ref (E.2.1 9)), (2, .int x101_2)] → lp_X4_open_101 N n101 x101_2 σh101 = some σl101 → W p l e rm_X4_open s m args below meth c H locs 0 0 Q (F0 m 101 ls []) := by
          intro n101
          induction n101 with
          | zero =>
            intro x101_2 σh101 H locs ls hP hS hl hG
            rw [lp_X4_open_101] at hG
            cases hG
          | succ n101 ih101 =>
            intro x101_2 σh101 H locs ls hP hS hl hG
            rw [lp_X4_open_101] at hG
            refine lv_iload_n hx hb dX4_open_101 rfl (lv_at hl 1 rfl) ?_
            refine lv_aload_n hx hb dX4_open_102 rfl (lv_at hl 0 rfl) ?_
            refine gf_X4_36 F hP dX4_open_103 ?_
            refine lv_icmp_ge (tgt := 138) hx hb dX4_open_106 (by decide) (fun c106 => ?_) (fun c106 => ?_)
            · have hG := f_ip c106 hG
              cases hG
              exact T101 _ _ _ hP hS (lv_sub hl [0] rfl)
            · have hG := f_in c106 hG
              refine lv_aload_n hx hb dX4_open_109 rfl (lv_at hl 0 rfl) ?_
              refine gf_X4_28 F hP dX4_open_110 ?_
              refine lv_iload_n hx hb dX4_open_113 rfl (lv_at hl 1 rfl) ?_
              refine lv_iload_n hx hb dX4_open_114 rfl (lv_at hl 1 rfl) ?_
              refine lv_aload_n hx hb dX4_open_115 rfl (lv_at hl 0 rfl) ?_
              refine gf_X4_36 F hP dX4_open_116 ?_
              obtain ⟨r119, σ119, hC119, hG⟩ := f_bd hG
              refine iv_X4_43 F hS hP (c_X2_commonPart l E N x101_2 (σh101.1 9 6) σh101 _ _ hC119) ⟨Nat.le_of_ble_eq_true rfl, Nat.le_of_ble_eq_true rfl⟩ hl.1 (Nat.le_of_ble_eq_true rfl) dX4_open_119 ⟨Nat.zero_le _, Nat.zero_le _⟩ (fun H locs hP hS => ?_)
              refine lv_iconst (v := 1) hx hb dX4_open_122 (by decide) ?_
              obtain ⟨o123, σj123, hT123, hG⟩ := f_bd hG
              have T123 : ∀ (H : Heap) (locs : List Loc) (ls : Array Slot), f_h E σj123 H → va_S (f_A E) s.heap H locs → lv_has ls 4 [(0, .ref (E.2.1 9)), (2, .int x101_2)] → W p l e rm_X4_open s m args below meth c H locs 0 0 Q (F0 m 131 ls [.int o123, .int x101_2, .ref (E.2.1 15)]) := by
                intro H locs ls hP hS hl
                obtain ⟨h131, hG⟩ := f_gd hG
                have i131 := f_fin h131
                obtain ⟨z131, hG⟩ := f_gd hG
                refine x_zast F hS hP rfl rfl (x_zB _ (f_isB z131)) i131 dX4_open_131 (fun H locs hP hS => ?_)
                obtain ⟨σ131, e131⟩ : ∃ t : fS, t = sI σj123 15 (x101_2).toNatClampNeg o123 := ⟨_, rfl⟩
                rw [← e131] at hP
                have hG := f_lt hG e131
                refine lv_iinc (v := (x101_2 + (1 : Int32))) (lv' := [(2, .int (x101_2 + (1 : Int32))), (0, .ref (E.2.1 9))]) hx hb dX4_open_132 hl (k := 1) rfl (by rfl) (by decide) rfl (fun ls hl => ?_)
                refine lv_goto (tgt := 101) hx hb dX4_open_135 (by decide) ?_
                exact ih101 (x101_2 + (1 : Int32)) σ131 _ _ _ hP hS (lv_sub hl [1, 0] rfl) hG
              have hG := hT123
              clear hT123
              refine lv_icmp_ne (tgt := 130) hx hb dX4_open_123 (by decide) (fun c123 => ?_) (fun c123 => ?_)
              · have hG := f_in c123 hG
                refine lv_iconst (v := 0) hx hb dX4_open_130 (by decide) ?_
                cases hG
                exact T123 _ _ _ hP hS (lv_sub hl [0, 1] rfl)
              · have hG := f_ip c123 hG
                refine lv_iconst (v := 1) hx hb dX4_open_126 (by decide) ?_
                refine lv_goto (tgt := 131) hx hb dX4_open_127 (by decide) ?_
                cases hG
                exact T123 _ _ _ hP hS (lv_sub hl [0, 1] rfl)
        exact L101 N (0 : Int32) σl25 _ _ _ hP hS (lv_sub hl [1, 0] rfl) hT101
      have L25 : ∀ (n25 : Nat) (x25_2 : Int32) (σh25 : fS) (H : Heap) (locs : List Loc) (ls : Array Slot), f_h E σh25 H → va_S (f_A E) s.heap H locs → lv_has ls 4 [(0, .ref (E.2.1 9)), (2, .int x25_2)] → lp_X4_open_25 N n25 x25_2 σh25 = some σl25 → W p l e rm_X4_open s m args below meth c H locs 0 0 Q (F0 m 25 ls []) := by
        intro n25
        induction n25 with
        | zero =>
          intro x25_2 σh25 H locs ls hP hS hl hG
          rw [lp_X4_open_25] at hG
          cases hG
        | succ n25 ih25 =>
          intro x25_2 σh25 H locs ls hP hS hl hG
          rw [lp_X4_open_25] at hG
          refine lv_iload_n hx hb dX4_open_25 rfl (lv_at hl 1 rfl) ?_
          refine lv_aload_n hx hb dX4_open_26 rfl (lv_at hl 0 rfl) ?_
          refine gf_X4_36 F hP dX4_open_27 ?_
          refine lv_icmp_gt (tgt := 99) hx hb dX4_open_30 (by decide) (fun c30 => ?_) (fun c30 => ?_)
          · have hG := f_ip c30 hG
            cases hG
            exact T25 _ _ _ hP hS (lv_sub hl [0] rfl)
          · have hG := f_in c30 hG
            refine lv_iconst (v := 3) hx hb dX4_open_33 (by decide) ?_
            refine lv_iload_n hx hb dX4_open_34 rfl (lv_at hl 1 rfl) ?_
            refine lv_imul hx hb dX4_open_35 ?_
            refine lv_iload_n hx hb dX4_open_36 rfl (lv_at hl 1 rfl) ?_
            refine lv_imul hx hb dX4_open_37 ?_
            refine lv_aload_n hx hb dX4_open_38 rfl (lv_at hl 0 rfl) ?_
            refine gf_X4_36 F hP dX4_open_39 ?_
            refine lv_icmp_gt (tgt := 99) hx hb dX4_open_42 (by decide) (fun c42 => ?_) (fun c42 => ?_)
            · have hG := f_ip c42 hG
              cases hG
              exact T25 _ _ _ hP hS (lv_sub hl [0] rfl)
            · have hG := f_in c42 hG
              refine lv_iconst (v := 1) hx hb dX4_open_45 (by decide) ?_
              refine lv_iload_n hx hb dX4_open_46 rfl (lv_at hl 1 rfl) ?_
              refine lv_isub hx hb dX4_open_47 ?_
              refine lv_topi (fun v48 e48 => ?_)
              have hG := f_lt hG e48
              refine lv_istore_n (lv' := [(3, .int v48), (0, .ref (E.2.1 9)), (2, .int x25_2)]) hx hb dX4_open_48 rfl hl (by decide) rfl (fun ls hl => ?_)
              obtain ⟨σl49, hT49, hG⟩ := f_bv hG
              have T49 : ∀ (H : Heap) (locs : List Loc) (ls : Array Slot), f_h E σl49 H → va_S (f_A E) s.heap H locs → lv_has ls 4 [(0, .ref (E.2.1 9)), (2, .int x25_2)] → W p l e rm_X4_open s m args below meth c H locs 0 0 Q (F0 m 93 ls []) := by
                intro H locs ls hP hS hl
                refine lv_iinc (v := (x25_2 + (1 : Int32))) (lv' := [(2, .int (x25_2 + (1 : Int32))), (0, .ref (E.2.1 9))]) hx hb dX4_open_93 hl (k := 1) rfl (by rfl) (by decide) rfl (fun ls hl => ?_)
                refine lv_goto (tgt := 25) hx hb dX4_open_96 (by decide) ?_
                exact ih25 (x25_2 + (1 : Int32)) σl49 _ _ _ hP hS (lv_sub hl [1, 0] rfl) hG
              have L49 : ∀ (n49 : Nat) (x49_3 : Int32) (σh49 : fS) (H : Heap) (locs : List Loc) (ls : Array Slot), f_h E σh49 H → va_S (f_A E) s.heap H locs → lv_has ls 4 [(0, .ref (E.2.1 9)), (2, .int x25_2), (3, .int x49_3)] → lp_X4_open_49 N x25_2 n49 x49_3 σh49 = some σl49 → W p l e rm_X4_open s m args below meth c H locs 0 0 Q (F0 m 49 ls []) := by
                intro n49
                induction n49 with
                | zero =>
                  intro x49_3 σh49 H locs ls hP hS hl hG
                  rw [lp_X4_open_49] at hG
                  cases hG
                | succ n49 ih49 =>
                  intro x49_3 σh49 H locs ls hP hS hl hG
                  rw [lp_X4_open_49] at hG
                  refine lv_iload_n hx hb dX4_open_49 rfl (lv_at hl 2 rfl) ?_
                  refine lv_iload_n hx hb dX4_open_50 rfl (lv_at hl 1 rfl) ?_
                  refine lv_icmp_gt (tgt := 93) hx hb dX4_open_51 (by decide) (fun c51 => ?_) (fun c51 => ?_)
                  · have hG := f_ip c51 hG
                    cases hG
                    exact T49 _ _ _ hP hS (lv_sub hl [0, 1] rfl)
                  · have hG := f_in c51 hG
                    refine lv_aload_n hx hb dX4_open_54 rfl (lv_at hl 0 rfl) ?_
                    refine gf_X4_36 F hP dX4_open_55 ?_
                    refine lv_iload_n hx hb dX4_open_58 rfl (lv_at hl 2 rfl) ?_
                    refine lv_iload_n hx hb dX4_open_59 rfl (lv_at hl 2 rfl) ?_
                    refine lv_imul hx hb dX4_open_60 ?_
                    refine lv_iadd hx hb dX4_open_61 ?_
                    refine lv_iconst (v := 4) hx hb dX4_open_62 (by decide) ?_
                    refine lv_iload_n hx hb dX4_open_63 rfl (lv_at hl 1 rfl) ?_
                    refine lv_imul hx hb dX4_open_64 ?_
                    obtain ⟨h65, hG⟩ := f_gd hG
                    refine x_irem F dX4_open_65 (f_nz h65) ?_
                    refine lv_if_ne (tgt := 87) hx hb dX4_open_66 (by decide) (fun c66 => ?_) (fun c66 => ?_)
                    · have hG := f_in c66 hG
                      refine lv_iinc (v := (x49_3 + (1 : Int32))) (lv' := [(3, .int (x49_3 + (1 : Int32))), (0, .ref (E.2.1 9)), (2, .int x25_2)]) hx hb dX4_open_87 hl (k := 2) rfl (by rfl) (by decide) rfl (fun ls hl => ?_)
                      refine lv_goto (tgt := 49) hx hb dX4_open_90 (by decide) ?_
                      exact ih49 (x49_3 + (1 : Int32)) σh49 _ _ _ hP hS (lv_sub hl [1, 2, 0] rfl) hG
                    · have hG := f_ip c66 hG
                      refine lv_aload_n hx hb dX4_open_69 rfl (lv_at hl 0 rfl) ?_
                      refine lv_iload_n hx hb dX4_open_70 rfl (lv_at hl 1 rfl) ?_
                      refine lv_iload_n hx hb dX4_open_71 rfl (lv_at hl 2 rfl) ?_
                      refine lv_aload_n hx hb dX4_open_72 rfl (lv_at hl 0 rfl) ?_
                      refine gf_X4_36 F hP dX4_open_73 ?_
                      refine lv_iload_n hx hb dX4_open_76 rfl (lv_at hl 2 rfl) ?_
                      refine lv_iload_n hx hb dX4_open_77 rfl (lv_at hl 2 rfl) ?_
                      refine lv_imul hx hb dX4_open_78 ?_
                      refine lv_iadd hx hb dX4_open_79 ?_
                      refine lv_iconst (v := 4) hx hb dX4_open_80 (by decide) ?_
                      refine lv_iload_n hx hb dX4_open_81 rfl (lv_at hl 1 rfl) ?_
                      refine lv_imul hx hb dX4_open_82 ?_
                      obtain ⟨h83, hG⟩ := f_gd hG
                      refine lv_idiv hx hb dX4_open_83 (f_nz h83) ?_
                      obtain ⟨σ84, hC84, hG⟩ := f_bv hG
                      refine iv_X4_39 F hS hP (c_X4_addIfReduced l E N x25_2 x49_3 (((σh49.1 9 6) + (x49_3 * x49_3)) / ((4 : Int32) * x25_2)) σh49 _ hC84) ⟨Nat.le_of_ble_eq_true rfl, Nat.le_of_ble_eq_true rfl⟩ hl.1 (Nat.le_of_ble_eq_true rfl) dX4_open_84 ⟨Nat.zero_le _, Nat.zero_le _⟩ (fun H locs hP hS => ?_)
                      refine lv_iinc (v := (x49_3 + (1 : Int32))) (lv' := [(3, .int (x49_3 + (1 : Int32))), (0, .ref (E.2.1 9)), (2, .int x25_2)]) hx hb dX4_open_87 hl (k := 2) rfl (by rfl) (by decide) rfl (fun ls hl => ?_)
                      refine lv_goto (tgt := 49) hx hb dX4_open_90 (by decide) ?_
                      exact ih49 (x49_3 + (1 : Int32)) σ84 _ _ _ hP hS (lv_sub hl [1, 2, 0] rfl) hG
              exact L49 N v48 σh25 _ _ _ hP hS (lv_sub hl [1, 2, 0] rfl) hT49
      exact L25 N (1 : Int32) σ20 _ _ _ hP hS (lv_sub hl [1, 0] rfl) hT25
    · have hG := f_in c9 hG
      exact x_rv hR hS hP hG dX4_open_12
theorem dJ13_bitCount_95d88_0 : decode cJ13_bitCount_95d88 0 = .ok (.lload_n 0, 1) := by decide +kernel
theorem dJ13_bitCount_95d88_1 : decode cJ13_bitCount_95d88 1 = .ok (.lload_n 0, 1) := by decide +kernel
theorem dJ13_bitCount_95d88_2 : decode cJ13_bitCount_95d88 2 = .ok (.iconst 1, 1) := by decide +kernel
theorem dJ13_bitCount_95d88_3 : decode cJ13_bitCount_95d88 3 = .ok (.lushr, 1) := by decide +kernel
theorem dJ13_bitCount_95d88_4 : decode cJ13_bitCount_95d88 4 = .ok (.ldc2_w 314, 3) := by decide +kernel
theorem dJ13_bitCount_95d88_7 : decode cJ13_bitCount_95d88 7 = .ok (.land, 1) := by decide +kernel
theorem dJ13_bitCount_95d88_8 : decode cJ13_bitCount_95d88 8 = .ok (.lsub, 1) := by decide +kernel
theorem dJ13_bitCount_95d88_9 : decode cJ13_bitCount_95d88 9 = .ok (.lstore_n 0, 1) := by decide +kernel
theorem dJ13_bitCount_95d88_10 : decode cJ13_bitCount_95d88 10 = .ok (.lload_n 0, 1) := by decide +kernel
theorem dJ13_bitCount_95d88_11 : decode cJ13_bitCount_95d88 11 = .ok (.ldc2_w 316, 3) := by decide +kernel
theorem dJ13_bitCount_95d88_14 : decode cJ13_bitCount_95d88 14 = .ok (.land, 1) := by decide +kernel
theorem dJ13_bitCount_95d88_15 : decode cJ13_bitCount_95d88 15 = .ok (.lload_n 0, 1) := by decide +kernel
theorem dJ13_bitCount_95d88_16 : decode cJ13_bitCount_95d88 16 = .ok (.iconst 2, 1) := by decide +kernel
theorem dJ13_bitCount_95d88_17 : decode cJ13_bitCount_95d88 17 = .ok (.lushr, 1) := by decide +kernel
theorem dJ13_bitCount_95d88_18 : decode cJ13_bitCount_95d88 18 = .ok (.ldc2_w 316, 3) := by decide +kernel
theorem dJ13_bitCount_95d88_21 : decode cJ13_bitCount_95d88 21 = .ok (.land, 1) := by decide +kernel
theorem dJ13_bitCount_95d88_22 : decode cJ13_bitCount_95d88 22 = .ok (.ladd, 1) := by decide +kernel
theorem dJ13_bitCount_95d88_23 : decode cJ13_bitCount_95d88 23 = .ok (.lstore_n 0, 1) := by decide +kernel
theorem dJ13_bitCount_95d88_24 : decode cJ13_bitCount_95d88 24 = .ok (.lload_n 0, 1) := by decide +kernel
theorem dJ13_bitCount_95d88_25 : decode cJ13_bitCount_95d88 25 = .ok (.lload_n 0, 1) := by decide +kernel
theorem dJ13_bitCount_95d88_26 : decode cJ13_bitCount_95d88 26 = .ok (.iconst 4, 1) := by decide +kernel
theorem dJ13_bitCount_95d88_27 : decode cJ13_bitCount_95d88 27 = .ok (.lushr, 1) := by decide +kernel
theorem dJ13_bitCount_95d88_28 : decode cJ13_bitCount_95d88 28 = .ok (.ladd, 1) := by decide +kernel
theorem dJ13_bitCount_95d88_29 : decode cJ13_bitCount_95d88 29 = .ok (.ldc2_w 318, 3) := by decide +kernel
theorem dJ13_bitCount_95d88_32 : decode cJ13_bitCount_95d88 32 = .ok (.land, 1) := by decide +kernel
theorem dJ13_bitCount_95d88_33 : decode cJ13_bitCount_95d88 33 = .ok (.lstore_n 0, 1) := by decide +kernel
theorem dJ13_bitCount_95d88_34 : decode cJ13_bitCount_95d88 34 = .ok (.lload_n 0, 1) := by decide +kernel
theorem dJ13_bitCount_95d88_35 : decode cJ13_bitCount_95d88 35 = .ok (.lload_n 0, 1) := by decide +kernel
theorem dJ13_bitCount_95d88_36 : decode cJ13_bitCount_95d88 36 = .ok (.bipush 8, 2) := by decide +kernel
theorem dJ13_bitCount_95d88_38 : decode cJ13_bitCount_95d88 38 = .ok (.lushr, 1) := by decide +kernel
theorem dJ13_bitCount_95d88_39 : decode cJ13_bitCount_95d88 39 = .ok (.ladd, 1) := by decide +kernel
theorem dJ13_bitCount_95d88_40 : decode cJ13_bitCount_95d88 40 = .ok (.lstore_n 0, 1) := by decide +kernel
theorem dJ13_bitCount_95d88_41 : decode cJ13_bitCount_95d88 41 = .ok (.lload_n 0, 1) := by decide +kernel
theorem dJ13_bitCount_95d88_42 : decode cJ13_bitCount_95d88 42 = .ok (.lload_n 0, 1) := by decide +kernel
theorem dJ13_bitCount_95d88_43 : decode cJ13_bitCount_95d88 43 = .ok (.bipush 16, 2) := by decide +kernel
theorem dJ13_bitCount_95d88_45 : decode cJ13_bitCount_95d88 45 = .ok (.lushr, 1) := by decide +kernel
theorem dJ13_bitCount_95d88_46 : decode cJ13_bitCount_95d88 46 = .ok (.ladd, 1) := by decide +kernel
theorem dJ13_bitCount_95d88_47 : decode cJ13_bitCount_95d88 47 = .ok (.lstore_n 0, 1) := by decide +kernel
theorem dJ13_bitCount_95d88_48 : decode cJ13_bitCount_95d88 48 = .ok (.lload_n 0, 1) := by decide +kernel
theorem dJ13_bitCount_95d88_49 : decode cJ13_bitCount_95d88 49 = .ok (.lload_n 0, 1) := by decide +kernel
theorem dJ13_bitCount_95d88_50 : decode cJ13_bitCount_95d88 50 = .ok (.bipush 32, 2) := by decide +kernel
theorem dJ13_bitCount_95d88_52 : decode cJ13_bitCount_95d88 52 = .ok (.lushr, 1) := by decide +kernel
theorem dJ13_bitCount_95d88_53 : decode cJ13_bitCount_95d88 53 = .ok (.ladd, 1) := by decide +kernel
theorem dJ13_bitCount_95d88_54 : decode cJ13_bitCount_95d88 54 = .ok (.lstore_n 0, 1) := by decide +kernel
theorem dJ13_bitCount_95d88_55 : decode cJ13_bitCount_95d88 55 = .ok (.lload_n 0, 1) := by decide +kernel
theorem dJ13_bitCount_95d88_56 : decode cJ13_bitCount_95d88 56 = .ok (.l2i, 1) := by decide +kernel
theorem dJ13_bitCount_95d88_57 : decode cJ13_bitCount_95d88 57 = .ok (.bipush 127, 2) := by decide +kernel
theorem dJ13_bitCount_95d88_59 : decode cJ13_bitCount_95d88 59 = .ok (.iand, 1) := by decide +kernel
theorem dJ13_bitCount_95d88_60 : decode cJ13_bitCount_95d88 60 = .ok (.ireturn, 1) := by decide +kernel
set_option maxHeartbeats 4000000 in
set_option maxRecDepth 100000 in
theorem c_J13_bitCount_95d88 (l : Launch) (E : fEv) (N : Nat) (a0 : Int64) (σ : fS) (r : Int32) (τ : fS) (hG : g_J13_bitCount_95d88 N a0 σ = some (r, τ)) : fM l E yJ13_bitCount_95d88 (.code yJ13_bitCount_95d88 cJ13_bitCount_95d88 2 (some .int)) rm_J13_bitCount_95d88 [.long a0] σ τ (some (.int r)) := by
  refine f_openI (by decide) (Nat.le_of_ble_eq_true rfl) ?_
  intro p e s m below meth c args Q F hR hP ls hl
  have hx := F.1.1
  have hb := F.1.2.1
  have hown := F.1.2.2.2.1
  have hts := F.1.2.2.2.2
  have hS : va_S (f_A E) s.heap s.heap [] := va_S.rf
  skip
  have hl : lv_has ls 2 [(0, .long a0)] := hl
  unfold g_J13_bitCount_95d88 at hG
  refine lv_lload_n hx hb dJ13_bitCount_95d88_0 rfl (lv_at hl 0 rfl) ?_
  refine lv_lload_n hx hb dJ13_bitCount_95d88_1 rfl (lv_at hl 0 rfl) ?_
  refine lv_iconst (v := 1) hx hb dJ13_bitCount_95d88_2 (by decide) ?_
  refine lv_lushr hx hb dJ13_bitCount_95d88_3 rfl ?_
  refine lv_ldc2 (v := 6148914691236517205) hx hb hown (hts _ wk_J13_314) dJ13_bitCount_95d88_4 ?_
  refine lv_land hx hb dJ13_bitCount_95d88_7 ?_
  refine lv_lsub hx hb dJ13_bitCount_95d88_8 ?_
  refine lv_topl (fun v9 e9 => ?_)
  have hG := f_lt hG e9
  refine lv_lstore_n (lv' := [(0, .long v9)]) hx hb dJ13_bitCount_95d88_9 rfl hl (by decide) rfl (fun ls hl => ?_)
  refine lv_lload_n hx hb dJ13_bitCount_95d88_10 rfl (lv_at hl 0 rfl) ?_
  refine lv_ldc2 (v := 3689348814741910323) hx hb hown (hts _ wk_J13_316) dJ13_bitCount_95d88_11 ?_
  refine lv_land hx hb dJ13_bitCount_95d88_14 ?_
  refine lv_lload_n hx hb dJ13_bitCount_95d88_15 rfl (lv_at hl 0 rfl) ?_
  refine lv_iconst (v := 2) hx hb dJ13_bitCount_95d88_16 (by decide) ?_
  refine lv_lushr hx hb dJ13_bitCount_95d88_17 rfl ?_
  refine lv_ldc2 (v := 3689348814741910323) hx hb hown (hts _ wk_J13_316) dJ13_bitCount_95d88_18 ?_
  refine lv_land hx hb dJ13_bitCount_95d88_21 ?_
  refine lv_ladd hx hb dJ13_bitCount_95d88_22 ?_
  refine lv_topl (fun v23 e23 => ?_)
  have hG := f_lt hG e23
  refine lv_lstore_n (lv' := [(0, .long v23)]) hx hb dJ13_bitCount_95d88_23 rfl hl (by decide) rfl (fun ls hl => ?_)
  refine lv_lload_n hx hb dJ13_bitCount_95d88_24 rfl (lv_at hl 0 rfl) ?_
  refine lv_lload_n hx hb dJ13_bitCount_95d88_25 rfl (lv_at hl 0 rfl) ?_
  refine lv_iconst (v := 4) hx hb dJ13_bitCount_95d88_26 (by decide) ?_
  refine lv_lushr hx hb dJ13_bitCount_95d88_27 rfl ?_
  refine lv_ladd hx hb dJ13_bitCount_95d88_28 ?_
  refine lv_ldc2 (v := 1085102592571150095) hx hb hown (hts _ wk_J13_318) dJ13_bitCount_95d88_29 ?_
  refine lv_land hx hb dJ13_bitCount_95d88_32 ?_
  refine lv_topl (fun v33 e33 => ?_)
  have hG := f_lt hG e33
  refine lv_lstore_n (lv' := [(0, .long v33)]) hx hb dJ13_bitCount_95d88_33 rfl hl (by decide) rfl (fun ls hl => ?_)
  refine lv_lload_n hx hb dJ13_bitCount_95d88_34 rfl (lv_at hl 0 rfl) ?_
  refine lv_lload_n hx hb dJ13_bitCount_95d88_35 rfl (lv_at hl 0 rfl) ?_
  refine lv_bipush (v := 8) hx hb dJ13_bitCount_95d88_36 (by decide) ?_
  refine lv_lushr hx hb dJ13_bitCount_95d88_38 rfl ?_
  refine lv_ladd hx hb dJ13_bitCount_95d88_39 ?_
  refine lv_topl (fun v40 e40 => ?_)
  have hG := f_lt hG e40
  refine lv_lstore_n (lv' := [(0, .long v40)]) hx hb dJ13_bitCount_95d88_40 rfl hl (by decide) rfl (fun ls hl => ?_)
  refine lv_lload_n hx hb dJ13_bitCount_95d88_41 rfl (lv_at hl 0 rfl) ?_
  refine lv_lload_n hx hb dJ13_bitCount_95d88_42 rfl (lv_at hl 0 rfl) ?_
  refine lv_bipush (v := 16) hx hb dJ13_bitCount_95d88_43 (by decide) ?_
  refine lv_lushr hx hb dJ13_bitCount_95d88_45 rfl ?_
  refine lv_ladd hx hb dJ13_bitCount_95d88_46 ?_
  refine lv_topl (fun v47 e47 => ?_)
  have hG := f_lt hG e47
  refine lv_lstore_n (lv' := [(0, .long v47)]) hx hb dJ13_bitCount_95d88_47 rfl hl (by decide) rfl (fun ls hl => ?_)
  refine lv_lload_n hx hb dJ13_bitCount_95d88_48 rfl (lv_at hl 0 rfl) ?_
  refine lv_lload_n hx hb dJ13_bitCount_95d88_49 rfl (lv_at hl 0 rfl) ?_
  refine lv_bipush (v := 32) hx hb dJ13_bitCount_95d88_50 (by decide) ?_
  refine lv_lushr hx hb dJ13_bitCount_95d88_52 rfl ?_
  refine lv_ladd hx hb dJ13_bitCount_95d88_53 ?_
  refine lv_topl (fun v54 e54 => ?_)
  have hG := f_lt hG e54
  refine lv_lstore_n (lv' := [(0, .long v54)]) hx hb dJ13_bitCount_95d88_54 rfl hl (by decide) rfl (fun ls hl => ?_)
  refine lv_lload_n hx hb dJ13_bitCount_95d88_55 rfl (lv_at hl 0 rfl) ?_
  refine lv_l2i hx hb dJ13_bitCount_95d88_56 rfl ?_
  refine lv_bipush (v := 127) hx hb dJ13_bitCount_95d88_57 (by decide) ?_
  refine lv_iand hx hb dJ13_bitCount_95d88_59 ?_
  exact x_ri hR hS hP hG dJ13_bitCount_95d88_60
theorem dX4_countMet_0 : decode cX4_countMet 0 = .ok (.iconst 0, 1) := by decide +kernel
theorem dX4_countMet_1 : decode cX4_countMet 1 = .ok (.istore_n 2, 1) := by decide +kernel
theorem dX4_countMet_2 : decode cX4_countMet 2 = .ok (.iconst 0, 1) := by decide +kernel
theorem dX4_countMet_3 : decode cX4_countMet 3 = .ok (.istore_n 3, 1) := by decide +kernel
theorem dX4_countMet_4 : decode cX4_countMet 4 = .ok (.iload_n 3, 1) := by decide +kernel
theorem dX4_countMet_5 : decode cX4_countMet 5 = .ok (.iconst 3, 1) := by decide +kernel
theorem dX4_countMet_6 : decode cX4_countMet 6 = .ok (.if_icmp .ge 33, 3) := by decide +kernel
theorem dX4_countMet_9 : decode cX4_countMet 9 = .ok (.aload_n 0, 1) := by decide +kernel
theorem dX4_countMet_10 : decode cX4_countMet 10 = .ok (.iload_n 1, 1) := by decide +kernel
theorem dX4_countMet_11 : decode cX4_countMet 11 = .ok (.invokevirtual 57, 3) := by decide +kernel
theorem dX4_countMet_14 : decode cX4_countMet 14 = .ok (.ifCond .eq 25, 3) := by decide +kernel
theorem dX4_countMet_17 : decode cX4_countMet 17 = .ok (.iload_n 2, 1) := by decide +kernel
theorem dX4_countMet_18 : decode cX4_countMet 18 = .ok (.aload_n 0, 1) := by decide +kernel
theorem dX4_countMet_19 : decode cX4_countMet 19 = .ok (.getfield 24, 3) := by decide +kernel
theorem dX4_countMet_22 : decode cX4_countMet 22 = .ok (.iload_n 1, 1) := by decide +kernel
theorem dX4_countMet_23 : decode cX4_countMet 23 = .ok (.iconst 3, 1) := by decide +kernel
theorem dX4_countMet_24 : decode cX4_countMet 24 = .ok (.imul, 1) := by decide +kernel
theorem dX4_countMet_25 : decode cX4_countMet 25 = .ok (.iload_n 3, 1) := by decide +kernel
theorem dX4_countMet_26 : decode cX4_countMet 26 = .ok (.iadd, 1) := by decide +kernel
theorem dX4_countMet_27 : decode cX4_countMet 27 = .ok (.laload, 1) := by decide +kernel
theorem dX4_countMet_28 : decode cX4_countMet 28 = .ok (.invokestatic 61, 3) := by decide +kernel
theorem dX4_countMet_31 : decode cX4_countMet 31 = .ok (.iadd, 1) := by decide +kernel
theorem dX4_countMet_32 : decode cX4_countMet 32 = .ok (.istore_n 2, 1) := by decide +kernel
theorem dX4_countMet_33 : decode cX4_countMet 33 = .ok (.iinc 3 1, 3) := by decide +kernel
theorem dX4_countMet_36 : decode cX4_countMet 36 = .ok (.goto (-32), 3) := by decide +kernel
theorem dX4_countMet_39 : decode cX4_countMet 39 = .ok (.iload_n 2, 1) := by decide +kernel
theorem dX4_countMet_40 : decode cX4_countMet 40 = .ok (.ireturn, 1) := by decide +kernel
set_option maxHeartbeats 4000000 in
set_option maxRecDepth 100000 in
theorem c_X4_countMet (l : Launch) (E : fEv) (N : Nat) (a1 : Int32) (σ : fS) (r : Int32) (τ : fS) (hG : g_X4_countMet N a1 σ = some (r, τ)) : fM l E yX4_countMet (.code yX4_countMet cX4_countMet 4 (some .int)) rm_X4_countMet [.ref (E.2.1 9), .int a1] σ τ (some (.int r)) := by
  refine f_openI (by decide) (Nat.le_of_ble_eq_true rfl) ?_
  intro p e s m below meth c args Q F hR hP ls hl
  have hx := F.1.1
  have hb := F.1.2.1
  have hown := F.1.2.2.2.1
  have hts := F.1.2.2.2.2
  have hS : va_S (f_A E) s.heap s.heap [] := va_S.rf
  skip
  have hl : lv_has ls 4 [(0, .ref (E.2.1 9)), (1, .int a1)] := hl
  unfold g_X4_countMet at hG
  refine lv_iconst (v := 0) hx hb dX4_countMet_0 (by decide) ?_
  refine lv_istore_n (lv' := [(2, .int (0 : Int32)), (0, .ref (E.2.1 9)), (1, .int a1)]) hx hb dX4_countMet_1 rfl hl (by decide) rfl (fun ls hl => ?_)
  refine lv_iconst (v := 0) hx hb dX4_countMet_2 (by decide) ?_
  refine lv_istore_n (lv' := [(3, .int (0 : Int32)), (2, .int (0 : Int32)), (0, .ref (E.2.1 9)), (1, .int a1)]) hx hb dX4_countMet_3 rfl hl (by decide) rfl (fun ls hl => ?_)
  obtain ⟨o4, σl4, hT4, hG⟩ := f_bd hG
  have T4 : ∀ (H : Heap) (locs : List Loc) (ls : Array Slot), f_h E σl4 H → va_S (f_A E) s.heap H locs → lv_has ls 4 [(2, .int o4)] → W p l e rm_X4_countMet s m args below meth c H locs 0 0 Q (F0 m 39 ls []) := by
    intro H locs ls hP hS hl
    refine lv_iload_n hx hb dX4_countMet_39 rfl (lv_at hl 0 rfl) ?_
    exact x_ri hR hS hP hG dX4_countMet_40
  have L4 : ∀ (n4 : Nat) (x4_2 : Int32) (x4_3 : Int32) (σh4 : fS) (H : Heap) (locs : List Loc) (ls : Array Slot), f_h E σh4 H → va_S (f_A E) s.heap H locs → lv_has ls 4 [(0, .ref (E.2.1 9)), (1, .int a1), (2, .int x4_2), (3, .int x4_3)] → lp_X4_countMet_4 N a1 n4 x4_2 x4_3 σh4 = some (o4, σl4) → W p l e rm_X4_countMet s m args below meth c H locs 0 0 Q (F0 m 4 ls []) := by
    intro n4
    induction n4 with
    | zero =>
      intro x4_2 x4_3 σh4 H locs ls hP hS hl hG
      rw [lp_X4_countMet_4] at hG
      cases hG
    | succ n4 ih4 =>
      intro x4_2 x4_3 σh4 H locs ls hP hS hl hG
      rw [lp_X4_countMet_4] at hG
      refine lv_iload_n hx hb dX4_countMet_4 rfl (lv_at hl 3 rfl) ?_
      refine lv_iconst (v := 3) hx hb dX4_countMet_5 (by decide) ?_
      refine lv_icmp_ge (tgt := 39) hx hb dX4_countMet_6 (by decide) (fun c6 => ?_) (fun c6 => ?_)
      · have hG := f_ip c6 hG
        cases hG
        exact T4 _ _ _ hP hS (lv_sub hl [2] rfl)
      · have hG := f_in c6 hG
        refine lv_aload_n hx hb dX4_countMet_9 rfl (lv_at hl 0 rfl) ?_
        refine lv_iload_n hx hb dX4_countMet_10 rfl (lv_at hl 1 rfl) ?_
        obtain ⟨r11, σ11, hC11, hG⟩ := f_bd hG
        refine iv_X4_57 F hS hP (c_X4_has l E N a1 σh4 _ _ hC11) ⟨Nat.le_of_ble_eq_true rfl, Nat.le_of_ble_eq_true rfl⟩ hl.1 (Nat.le_of_ble_eq_true rfl) dX4_countMet_11 ⟨Nat.zero_le _, Nat.zero_le _⟩ (fun H locs hP hS => ?_)
        refine lv_if_eq (tgt := 39) hx hb dX4_countMet_14 (by decide) (fun c14 => ?_) (fun c14 => ?_)
        · have hG := f_ip c14 hG
          cases hG
          exact T4 _ _ _ hP hS (lv_sub hl [2] rfl)
        · have hG := f_in c14 hG
          refine lv_iload_n hx hb dX4_countMet_17 rfl (lv_at hl 2 rfl) ?_
          refine lv_aload_n hx hb dX4_countMet_18 rfl (lv_at hl 0 rfl) ?_
          refine gf_X4_24 F hP dX4_countMet_19 ?_
          refine lv_iload_n hx hb dX4_countMet_22 rfl (lv_at hl 1 rfl) ?_
          refine lv_iconst (v := 3) hx hb dX4_countMet_23 (by decide) ?_
          refine lv_imul hx hb dX4_countMet_24 ?_
          refine lv_iload_n hx hb dX4_countMet_25 rfl (lv_at hl 3 rfl) ?_
          refine lv_iadd hx hb dX4_countMet_26 ?_
          obtain ⟨h27, hG⟩ := f_gd hG
          have i27 := f_fin h27
          refine x_lald F hP rfl rfl i27 dX4_countMet_27 ?_
          obtain ⟨r28, σ28, hC28, hG⟩ := f_bd hG
          refine iv_X4_61 F hS hP (c_J13_bitCount_95d88 l E N (σ11.2 14 (((a1 * (3 : Int32)) + x4_3)).toNatClampNeg) σ11 _ _ hC28) ⟨Nat.le_of_ble_eq_true rfl, Nat.le_of_ble_eq_true rfl⟩ hl.1 (Nat.le_of_ble_eq_true rfl) dX4_countMet_28 ⟨Nat.zero_le _, Nat.zero_le _⟩ (fun H locs hP hS => ?_)
          refine lv_iadd hx hb dX4_countMet_31 ?_
          refine lv_topi (fun v32 e32 => ?_)
          have hG := f_lt hG e32
          refine lv_istore_n (lv' := [(2, .int v32), (0, .ref (E.2.1 9)), (1, .int a1), (3, .int x4_3)]) hx hb dX4_countMet_32 rfl hl (by decide) rfl (fun ls hl => ?_)
          refine lv_iinc (v := (x4_3 + (1 : Int32))) (lv' := [(3, .int (x4_3 + (1 : Int32))), (2, .int v32), (0, .ref (E.2.1 9)), (1, .int a1)]) hx hb dX4_countMet_33 hl (k := 3) rfl (by rfl) (by decide) rfl (fun ls hl => ?_)
          refine lv_goto (tgt := 4) hx hb dX4_countMet_36 (by decide) ?_
          exact ih4 v32 (x4_3 + (1 : Int32)) σ28 _ _ _ hP hS (lv_sub hl [2, 3, 1, 0] rfl) hG
  exact L4 N (0 : Int32) (0 : Int32) σ _ _ _ hP hS (lv_sub hl [2, 3, 1, 0] rfl) hT4
theorem dX4_countGenera_0 : decode cX4_countGenera 0 = .ok (.iconst 0, 1) := by decide +kernel
theorem dX4_countGenera_1 : decode cX4_countGenera 1 = .ok (.istore_n 1, 1) := by decide +kernel
theorem dX4_countGenera_2 : decode cX4_countGenera 2 = .ok (.iconst 0, 1) := by decide +kernel
theorem dX4_countGenera_3 : decode cX4_countGenera 3 = .ok (.istore_n 2, 1) := by decide +kernel
theorem dX4_countGenera_4 : decode cX4_countGenera 4 = .ok (.iload_n 2, 1) := by decide +kernel
theorem dX4_countGenera_5 : decode cX4_countGenera 5 = .ok (.aload_n 0, 1) := by decide +kernel
theorem dX4_countGenera_6 : decode cX4_countGenera 6 = .ok (.getfield 32, 3) := by decide +kernel
theorem dX4_countGenera_9 : decode cX4_countGenera 9 = .ok (.if_icmp .ge 33, 3) := by decide +kernel
theorem dX4_countGenera_12 : decode cX4_countGenera 12 = .ok (.iload_n 2, 1) := by decide +kernel
theorem dX4_countGenera_13 : decode cX4_countGenera 13 = .ok (.bipush 56, 2) := by decide +kernel
theorem dX4_countGenera_15 : decode cX4_countGenera 15 = .ok (.if_icmp .ge 27, 3) := by decide +kernel
theorem dX4_countGenera_18 : decode cX4_countGenera 18 = .ok (.iload_n 1, 1) := by decide +kernel
theorem dX4_countGenera_19 : decode cX4_countGenera 19 = .ok (.aload_n 0, 1) := by decide +kernel
theorem dX4_countGenera_20 : decode cX4_countGenera 20 = .ok (.getfield 21, 3) := by decide +kernel
theorem dX4_countGenera_23 : decode cX4_countGenera 23 = .ok (.iload_n 2, 1) := by decide +kernel
theorem dX4_countGenera_24 : decode cX4_countGenera 24 = .ok (.iaload, 1) := by decide +kernel
theorem dX4_countGenera_25 : decode cX4_countGenera 25 = .ok (.iload_n 2, 1) := by decide +kernel
theorem dX4_countGenera_26 : decode cX4_countGenera 26 = .ok (.if_icmp .ne 7, 3) := by decide +kernel
theorem dX4_countGenera_29 : decode cX4_countGenera 29 = .ok (.iconst 1, 1) := by decide +kernel
theorem dX4_countGenera_30 : decode cX4_countGenera 30 = .ok (.goto 4, 3) := by decide +kernel
theorem dX4_countGenera_33 : decode cX4_countGenera 33 = .ok (.iconst 0, 1) := by decide +kernel
theorem dX4_countGenera_34 : decode cX4_countGenera 34 = .ok (.iadd, 1) := by decide +kernel
theorem dX4_countGenera_35 : decode cX4_countGenera 35 = .ok (.istore_n 1, 1) := by decide +kernel
theorem dX4_countGenera_36 : decode cX4_countGenera 36 = .ok (.iinc 2 1, 3) := by decide +kernel
theorem dX4_countGenera_39 : decode cX4_countGenera 39 = .ok (.goto (-35), 3) := by decide +kernel
theorem dX4_countGenera_42 : decode cX4_countGenera 42 = .ok (.iload_n 1, 1) := by decide +kernel
theorem dX4_countGenera_43 : decode cX4_countGenera 43 = .ok (.ireturn, 1) := by decide +kernel
set_option maxHeartbeats 4000000 in
set_option maxRecDepth 100000 in
theorem c_X4_countGenera (l : Launch) (E : fEv) (N : Nat)  (σ : fS) (r : Int32) (τ : fS) (hG : g_X4_countGenera N  σ = some (r, τ)) : fM l E yX4_countGenera (.code yX4_countGenera cX4_countGenera 3 (some .int)) rm_X4_countGenera [.ref (E.2.1 9)] σ τ (some (.int r)) := by
  refine f_openI (by decide) (Nat.le_of_ble_eq_true rfl) ?_
  intro p e s m below meth c args Q F hR hP ls hl
  have hx := F.1.1
  have hb := F.1.2.1
  have hown := F.1.2.2.2.1
  have hts := F.1.2.2.2.2
  have hS : va_S (f_A E) s.heap s.heap [] := va_S.rf
  skip
  have hl : lv_has ls 3 [(0, .ref (E.2.1 9))] := hl
  unfold g_X4_countGenera at hG
  refine lv_iconst (v := 0) hx hb dX4_countGenera_0 (by decide) ?_
  refine lv_istore_n (lv' := [(1, .int (0 : Int32)), (0, .ref (E.2.1 9))]) hx hb dX4_countGenera_1 rfl hl (by decide) rfl (fun ls hl => ?_)
  refine lv_iconst (v := 0) hx hb dX4_countGenera_2 (by decide) ?_
  refine lv_istore_n (lv' := [(2, .int (0 : Int32)), (1, .int (0 : Int32)), (0, .ref (E.2.1 9))]) hx hb dX4_countGenera_3 rfl hl (by decide) rfl (fun ls hl => ?_)
  obtain ⟨o4, σl4, hT4, hG⟩ := f_bd hG
  have T4 : ∀ (H : Heap) (locs : List Loc) (ls : Array Slot), f_h E σl4 H → va_S (f_A E) s.heap H locs → lv_has ls 3 [(1, .int o4)] → W p l e rm_X4_countGenera s m args below meth c H locs 0 0 Q (F0 m 42 ls []) := by
    intro H locs ls hP hS hl
    refine lv_iload_n hx hb dX4_countGenera_42 rfl (lv_at hl 0 rfl) ?_
    exact x_ri hR hS hP hG dX4_countGenera_43
  have L4 : ∀ (n4 : Nat) (x4_1 : Int32) (x4_2 : Int32) (σh4 : fS) (H : Heap) (locs : List Loc) (ls : Array Slot), f_h E σh4 H → va_S (f_A E) s.heap H locs → lv_has ls 3 [(0, .ref (E.2.1 9)), (1, .int x4_1), (2, .int x4_2)] → lp_X4_countGenera_4 N n4 x4_1 x4_2 σh4 = some (o4, σl4) → W p l e rm_X4_countGenera s m args below meth c H locs 0 0 Q (F0 m 4 ls []) := by
    intro n4
    induction n4 with
    | zero =>
      intro x4_1 x4_2 σh4 H locs ls hP hS hl hG
      rw [lp_X4_countGenera_4] at hG
      cases hG
    | succ n4 ih4 =>
      intro x4_1 x4_2 σh4 H locs ls hP hS hl hG
      rw [lp_X4_countGenera_4] at hG
      refine lv_iload_n hx hb dX4_countGenera_4 rfl (lv_at hl 2 rfl) ?_
      refine lv_aload_n hx hb dX4_countGenera_5 rfl (lv_at hl 0 rfl) ?_
      refine gf_X4_32 F hP dX4_countGenera_6 ?_
      refine lv_icmp_ge (tgt := 42) hx hb dX4_countGenera_9 (by decide) (fun c9 => ?_) (fun c9 => ?_)
      · have hG := f_ip c9 hG
        cases hG
        exact T4 _ _ _ hP hS (lv_sub hl [1] rfl)
      · have hG := f_in c9 hG
        refine lv_iload_n hx hb dX4_countGenera_12 rfl (lv_at hl 2 rfl) ?_
        refine lv_bipush (v := 56) hx hb dX4_countGenera_13 (by decide) ?_
        refine lv_icmp_ge (tgt := 42) hx hb dX4_countGenera_15 (by decide) (fun c15 => ?_) (fun c15 => ?_)
        · have hG := f_ip c15 hG
          cases hG
          exact T4 _ _ _ hP hS (lv_sub hl [1] rfl)
        · have hG := f_in c15 hG
          refine lv_iload_n hx hb dX4_countGenera_18 rfl (lv_at hl 1 rfl) ?_
          refine lv_aload_n hx hb dX4_countGenera_19 rfl (lv_at hl 0 rfl) ?_
          refine gf_X4_21 F hP dX4_countGenera_20 ?_
          refine lv_iload_n hx hb dX4_countGenera_23 rfl (lv_at hl 2 rfl) ?_
          obtain ⟨h24, hG⟩ := f_gd hG
          have i24 := f_fin h24
          refine x_iald F hP rfl rfl i24 dX4_countGenera_24 ?_
          refine lv_iload_n hx hb dX4_countGenera_25 rfl (lv_at hl 2 rfl) ?_
          refine lv_icmp_ne (tgt := 33) hx hb dX4_countGenera_26 (by decide) (fun c26 => ?_) (fun c26 => ?_)
          · have hG := f_in c26 hG
            refine lv_iconst (v := 0) hx hb dX4_countGenera_33 (by decide) ?_
            refine lv_iadd hx hb dX4_countGenera_34 ?_
            refine lv_topi (fun v35 e35 => ?_)
            have hG := f_lt hG e35
            refine lv_istore_n (lv' := [(1, .int v35), (0, .ref (E.2.1 9)), (2, .int x4_2)]) hx hb dX4_countGenera_35 rfl hl (by decide) rfl (fun ls hl => ?_)
            refine lv_iinc (v := (x4_2 + (1 : Int32))) (lv' := [(2, .int (x4_2 + (1 : Int32))), (1, .int v35), (0, .ref (E.2.1 9))]) hx hb dX4_countGenera_36 hl (k := 2) rfl (by rfl) (by decide) rfl (fun ls hl => ?_)
            refine lv_goto (tgt := 4) hx hb dX4_countGenera_39 (by decide) ?_
            exact ih4 v35 (x4_2 + (1 : Int32)) σh4 _ _ _ hP hS (lv_sub hl [2, 1, 0] rfl) hG
          · have hG := f_ip c26 hG
            refine lv_iconst (v := 1) hx hb dX4_countGenera_29 (by decide) ?_
            refine lv_goto (tgt := 34) hx hb dX4_countGenera_30 (by decide) ?_
            refine lv_iadd hx hb dX4_countGenera_34 ?_
            refine lv_topi (fun v35 e35 => ?_)
            have hG := f_lt hG e35
            refine lv_istore_n (lv' := [(1, .int v35), (0, .ref (E.2.1 9)), (2, .int x4_2)]) hx hb dX4_countGenera_35 rfl hl (by decide) rfl (fun ls hl => ?_)
            refine lv_iinc (v := (x4_2 + (1 : Int32))) (lv' := [(2, .int (x4_2 + (1 : Int32))), (1, .int v35), (0, .ref (E.2.1 9))]) hx hb dX4_countGenera_36 hl (k := 2) rfl (by rfl) (by decide) rfl (fun ls hl => ?_)
            refine lv_goto (tgt := 4) hx hb dX4_countGenera_39 (by decide) ?_
            exact ih4 v35 (x4_2 + (1 : Int32)) σh4 _ _ _ hP hS (lv_sub hl [2, 1, 0] rfl) hG
  exact L4 N (0 : Int32) (0 : Int32) σ _ _ _ hP hS (lv_sub hl [2, 1, 0] rfl) hT4
theorem dJ9_min_7cf53_0 : decode cJ9_min_7cf53 0 = .ok (.iload_n 0, 1) := by decide +kernel
theorem dJ9_min_7cf53_1 : decode cJ9_min_7cf53 1 = .ok (.iload_n 1, 1) := by decide +kernel
theorem dJ9_min_7cf53_2 : decode cJ9_min_7cf53 2 = .ok (.if_icmp .gt 7, 3) := by decide +kernel
theorem dJ9_min_7cf53_5 : decode cJ9_min_7cf53 5 = .ok (.iload_n 0, 1) := by decide +kernel
theorem dJ9_min_7cf53_6 : decode cJ9_min_7cf53 6 = .ok (.goto 4, 3) := by decide +kernel
theorem dJ9_min_7cf53_9 : decode cJ9_min_7cf53 9 = .ok (.iload_n 1, 1) := by decide +kernel
theorem dJ9_min_7cf53_10 : decode cJ9_min_7cf53 10 = .ok (.ireturn, 1) := by decide +kernel
set_option maxHeartbeats 4000000 in
set_option maxRecDepth 100000 in
theorem c_J9_min_7cf53 (l : Launch) (E : fEv) (N : Nat) (a0 : Int32) (a1 : Int32) (σ : fS) (r : Int32) (τ : fS) (hG : g_J9_min_7cf53 N a0 a1 σ = some (r, τ)) : fM l E yJ9_min_7cf53 (.code yJ9_min_7cf53 cJ9_min_7cf53 2 (some .int)) rm_J9_min_7cf53 [.int a0, .int a1] σ τ (some (.int r)) := by
  refine f_openM (by decide +kernel) (Nat.le_of_ble_eq_true rfl) ?_
  intro p e s m below meth c args Q F hR hP ls hl
  have hx := F.1.1
  have hb := F.1.2.1
  have hown := F.1.2.2.2.1
  have hts := F.1.2.2.2.2
  have hS : va_S (f_A E) s.heap s.heap [] := va_S.rf
  skip
  have hl : lv_has ls 2 [(0, .int a0), (1, .int a1)] := hl
  unfold g_J9_min_7cf53 at hG
  refine lv_iload_n hx hb dJ9_min_7cf53_0 rfl (lv_at hl 0 rfl) ?_
  refine lv_iload_n hx hb dJ9_min_7cf53_1 rfl (lv_at hl 1 rfl) ?_
  refine lv_icmp_gt (tgt := 9) hx hb dJ9_min_7cf53_2 (by decide) (fun c2 => ?_) (fun c2 => ?_)
  · have hG := f_ip c2 hG
    refine lv_iload_n hx hb dJ9_min_7cf53_9 rfl (lv_at hl 1 rfl) ?_
    exact x_ri hR hS hP hG dJ9_min_7cf53_10
  · have hG := f_in c2 hG
    refine lv_iload_n hx hb dJ9_min_7cf53_5 rfl (lv_at hl 0 rfl) ?_
    refine lv_goto (tgt := 10) hx hb dJ9_min_7cf53_6 (by decide) ?_
    exact x_ri hR hS hP hG dJ9_min_7cf53_10
theorem dX5_keep_0 : decode cX5_keep 0 = .ok (.aload_n 0, 1) := by decide +kernel
theorem dX5_keep_1 : decode cX5_keep 1 = .ok (.getfield 22, 3) := by decide +kernel
theorem dX5_keep_4 : decode cX5_keep 4 = .ok (.bipush 12, 2) := by decide +kernel
theorem dX5_keep_6 : decode cX5_keep 6 = .ok (.invokestatic 26, 3) := by decide +kernel
theorem dX5_keep_9 : decode cX5_keep 9 = .ok (.istore_n 3, 1) := by decide +kernel
theorem dX5_keep_10 : decode cX5_keep 10 = .ok (.aload_n 0, 1) := by decide +kernel
theorem dX5_keep_11 : decode cX5_keep 11 = .ok (.getfield 11, 3) := by decide +kernel
theorem dX5_keep_14 : decode cX5_keep 14 = .ok (.iload_n 3, 1) := by decide +kernel
theorem dX5_keep_15 : decode cX5_keep 15 = .ok (.iload_n 1, 1) := by decide +kernel
theorem dX5_keep_16 : decode cX5_keep 16 = .ok (.iastore, 1) := by decide +kernel
theorem dX5_keep_17 : decode cX5_keep 17 = .ok (.aload_n 0, 1) := by decide +kernel
theorem dX5_keep_18 : decode cX5_keep 18 = .ok (.getfield 17, 3) := by decide +kernel
theorem dX5_keep_21 : decode cX5_keep 21 = .ok (.iload_n 3, 1) := by decide +kernel
theorem dX5_keep_22 : decode cX5_keep 22 = .ok (.aaload, 1) := by decide +kernel
theorem dX5_keep_23 : decode cX5_keep 23 = .ok (.aload_n 2, 1) := by decide +kernel
theorem dX5_keep_24 : decode cX5_keep 24 = .ok (.invokevirtual 32, 3) := by decide +kernel
theorem dX5_keep_27 : decode cX5_keep 27 = .ok (.aload_n 0, 1) := by decide +kernel
theorem dX5_keep_28 : decode cX5_keep 28 = .ok (.iload_n 3, 1) := by decide +kernel
theorem dX5_keep_29 : decode cX5_keep 29 = .ok (.iconst 1, 1) := by decide +kernel
theorem dX5_keep_30 : decode cX5_keep 30 = .ok (.iadd, 1) := by decide +kernel
theorem dX5_keep_31 : decode cX5_keep 31 = .ok (.bipush 12, 2) := by decide +kernel
theorem dX5_keep_33 : decode cX5_keep 33 = .ok (.irem, 1) := by decide +kernel
theorem dX5_keep_34 : decode cX5_keep 34 = .ok (.putfield 22, 3) := by decide +kernel
theorem dX5_keep_37 : decode cX5_keep 37 = .ok (.aload_n 0, 1) := by decide +kernel
theorem dX5_keep_38 : decode cX5_keep 38 = .ok (.aload_n 0, 1) := by decide +kernel
theorem dX5_keep_39 : decode cX5_keep 39 = .ok (.getfield 36, 3) := by decide +kernel
theorem dX5_keep_42 : decode cX5_keep 42 = .ok (.iconst 1, 1) := by decide +kernel
theorem dX5_keep_43 : decode cX5_keep 43 = .ok (.iadd, 1) := by decide +kernel
theorem dX5_keep_44 : decode cX5_keep 44 = .ok (.bipush 12, 2) := by decide +kernel
theorem dX5_keep_46 : decode cX5_keep 46 = .ok (.invokestatic 39, 3) := by decide +kernel
theorem dX5_keep_49 : decode cX5_keep 49 = .ok (.putfield 36, 3) := by decide +kernel
theorem dX5_keep_52 : decode cX5_keep 52 = .ok (.aload_n 0, 1) := by decide +kernel
theorem dX5_keep_53 : decode cX5_keep 53 = .ok (.dup, 1) := by decide +kernel
theorem dX5_keep_54 : decode cX5_keep 54 = .ok (.getfield 42, 3) := by decide +kernel
theorem dX5_keep_57 : decode cX5_keep 57 = .ok (.iconst 1, 1) := by decide +kernel
theorem dX5_keep_58 : decode cX5_keep 58 = .ok (.iadd, 1) := by decide +kernel
theorem dX5_keep_59 : decode cX5_keep 59 = .ok (.putfield 42, 3) := by decide +kernel
theorem dX5_keep_62 : decode cX5_keep 62 = .ok (.return_, 1) := by decide +kernel
set_option maxHeartbeats 4000000 in
set_option maxRecDepth 100000 in
theorem c_X5_keep (l : Launch) (E : fEv) (N : Nat) (a1 : Int32) (k2 : Nat) (hk2 : kd k2 = 0) (σ : fS) (τ : fS) (hG : g_X5_keep N a1 k2 σ = some τ) : fM l E yX5_keep (.code yX5_keep cX5_keep 4 none) rm_X5_keep [.ref (E.2.1 6), .int a1, .ref (E.2.1 k2)] σ τ none := by
  refine f_openV (by decide) (Nat.le_of_ble_eq_true rfl) ?_
  intro p e s m below meth c args Q F hR hP ls hl
  have hx := F.1.1
  have hb := F.1.2.1
  have hown := F.1.2.2.2.1
  have hts := F.1.2.2.2.2
  have hS : va_S (f_A E) s.heap s.heap [] := va_S.rf
  skip
  have hl : lv_has ls 4 [(0, .ref (E.2.1 6)), (1, .int a1), (2, .ref (E.2.1 k2))] := hl
  unfold g_X5_keep at hG
  refine lv_aload_n hx hb dX5_keep_0 rfl (lv_at hl 0 rfl) ?_
  refine gf_X5_22 F hP dX5_keep_1 ?_
  refine lv_bipush (v := 12) hx hb dX5_keep_4 (by decide) ?_
  obtain ⟨r6, σ6, hC6, hG⟩ := f_bd hG
  refine iv_X5_26 F hS hP (c_J9_floorMod_7cf53 l E N (σ.1 6 2) (12 : Int32) σ _ _ hC6) ⟨Nat.le_of_ble_eq_true rfl, Nat.le_of_ble_eq_true rfl⟩ hl.1 (Nat.le_of_ble_eq_true rfl) dX5_keep_6 ⟨Nat.zero_le _, Nat.zero_le _⟩ (fun H locs hP hS => ?_)
  refine lv_istore_n (lv' := [(3, .int r6), (0, .ref (E.2.1 6)), (1, .int a1), (2, .ref (E.2.1 k2))]) hx hb dX5_keep_9 rfl hl (by decide) rfl (fun ls hl => ?_)
  refine lv_aload_n hx hb dX5_keep_10 rfl (lv_at hl 1 rfl) ?_
  refine gf_X5_11 F hP dX5_keep_11 ?_
  refine lv_iload_n hx hb dX5_keep_14 rfl (lv_at hl 0 rfl) ?_
  refine lv_iload_n hx hb dX5_keep_15 rfl (lv_at hl 2 rfl) ?_
  obtain ⟨h16, hG⟩ := f_gd hG
  have i16 := f_fin h16
  refine x_iast F hS hP rfl rfl i16 dX5_keep_16 (fun H locs hP hS => ?_)
  obtain ⟨σ16, e16⟩ : ∃ t : fS, t = sI σ6 7 (r6).toNatClampNeg a1 := ⟨_, rfl⟩
  rw [← e16] at hP
  have hG := f_lt hG e16
  refine lv_aload_n hx hb dX5_keep_17 rfl (lv_at hl 1 rfl) ?_
  refine gf_X5_17 F hP dX5_keep_18 ?_
  refine lv_iload_n hx hb dX5_keep_21 rfl (lv_at hl 0 rfl) ?_
  obtain ⟨h22, hG⟩ := f_gd hG
  have i22 := f_fin h22
  refine x_aald F hP rfl rfl i22 dX5_keep_22 ?_
  refine lv_aload_n hx hb dX5_keep_23 rfl (lv_at hl 3 rfl) ?_
  obtain ⟨σ24, hC24, hG⟩ := f_bv hG
  refine iv_X5_32 F hS hP (kd_b i22) (c_X0_copy l E N (er 8 (r6).toNatClampNeg) k2 (kd_b i22) hk2 σ16 _ hC24) ⟨Nat.le_of_ble_eq_true rfl, Nat.le_of_ble_eq_true rfl⟩ hl.1 (Nat.le_of_ble_eq_true rfl) dX5_keep_24 ⟨Nat.zero_le _, Nat.zero_le _⟩ (fun H locs hP hS => ?_)
  refine lv_aload_n hx hb dX5_keep_27 rfl (lv_at hl 1 rfl) ?_
  refine lv_iload_n hx hb dX5_keep_28 rfl (lv_at hl 0 rfl) ?_
  refine lv_iconst (v := 1) hx hb dX5_keep_29 (by decide) ?_
  refine lv_iadd hx hb dX5_keep_30 ?_
  refine lv_bipush (v := 12) hx hb dX5_keep_31 (by decide) ?_
  refine x_irem F dX5_keep_33 (by decide) ?_
  refine pf_X5_22 F hS hP dX5_keep_34 (fun H locs hP hS => ?_)
  obtain ⟨σ34, e34⟩ : ∃ t : fS, t = sI σ24 6 2 (iR (r6 + (1 : Int32)) (12 : Int32)) := ⟨_, rfl⟩
  rw [← e34] at hP
  have hG := f_lt hG e34
  refine lv_aload_n hx hb dX5_keep_37 rfl (lv_at hl 1 rfl) ?_
  refine lv_aload_n hx hb dX5_keep_38 rfl (lv_at hl 1 rfl) ?_
  refine gf_X5_36 F hP dX5_keep_39 ?_
  refine lv_iconst (v := 1) hx hb dX5_keep_42 (by decide) ?_
  refine lv_iadd hx hb dX5_keep_43 ?_
  refine lv_bipush (v := 12) hx hb dX5_keep_44 (by decide) ?_
  obtain ⟨r46, σ46, hC46, hG⟩ := f_bd hG
  refine iv_X5_39 F hS hP (c_J9_min_7cf53 l E N ((σ34.1 6 3) + (1 : Int32)) (12 : Int32) σ34 _ _ hC46) ⟨Nat.le_of_ble_eq_true rfl, Nat.le_of_ble_eq_true rfl⟩ hl.1 (Nat.le_of_ble_eq_true rfl) dX5_keep_46 ⟨Nat.zero_le _, Nat.zero_le _⟩ (fun H locs hP hS => ?_)
  refine pf_X5_36 F hS hP dX5_keep_49 (fun H locs hP hS => ?_)
  obtain ⟨σ49, e49⟩ : ∃ t : fS, t = sI σ46 6 3 r46 := ⟨_, rfl⟩
  rw [← e49] at hP
  have hG := f_lt hG e49
  refine lv_aload_n hx hb dX5_keep_52 rfl (lv_at hl 1 rfl) ?_
  refine lv_dup hx hb dX5_keep_53 rfl ?_
  refine gf_X5_42 F hP dX5_keep_54 ?_
  refine lv_iconst (v := 1) hx hb dX5_keep_57 (by decide) ?_
  refine lv_iadd hx hb dX5_keep_58 ?_
  refine pf_X5_42 F hS hP dX5_keep_59 (fun H locs hP hS => ?_)
  obtain ⟨σ59, e59⟩ : ∃ t : fS, t = sI σ49 6 4 ((σ49.1 6 4) + (1 : Int32)) := ⟨_, rfl⟩
  rw [← e59] at hP
  have hG := f_lt hG e59
  exact x_rv hR hS hP hG dX5_keep_62
theorem dX5_takeBack_0 : decode cX5_takeBack 0 = .ok (.aload_n 0, 1) := by decide +kernel
theorem dX5_takeBack_1 : decode cX5_takeBack 1 = .ok (.getfield 36, 3) := by decide +kernel
theorem dX5_takeBack_4 : decode cX5_takeBack 4 = .ok (.ifCond .gt 5, 3) := by decide +kernel
theorem dX5_takeBack_7 : decode cX5_takeBack 7 = .ok (.iconst (-1), 1) := by decide +kernel
theorem dX5_takeBack_8 : decode cX5_takeBack 8 = .ok (.ireturn, 1) := by decide +kernel
theorem dX5_takeBack_9 : decode cX5_takeBack 9 = .ok (.aload_n 0, 1) := by decide +kernel
theorem dX5_takeBack_10 : decode cX5_takeBack 10 = .ok (.getfield 22, 3) := by decide +kernel
theorem dX5_takeBack_13 : decode cX5_takeBack 13 = .ok (.iconst 1, 1) := by decide +kernel
theorem dX5_takeBack_14 : decode cX5_takeBack 14 = .ok (.isub, 1) := by decide +kernel
theorem dX5_takeBack_15 : decode cX5_takeBack 15 = .ok (.bipush 12, 2) := by decide +kernel
theorem dX5_takeBack_17 : decode cX5_takeBack 17 = .ok (.invokestatic 26, 3) := by decide +kernel
theorem dX5_takeBack_20 : decode cX5_takeBack 20 = .ok (.istore_n 2, 1) := by decide +kernel
theorem dX5_takeBack_21 : decode cX5_takeBack 21 = .ok (.aload_n 1, 1) := by decide +kernel
theorem dX5_takeBack_22 : decode cX5_takeBack 22 = .ok (.aload_n 0, 1) := by decide +kernel
theorem dX5_takeBack_23 : decode cX5_takeBack 23 = .ok (.getfield 17, 3) := by decide +kernel
theorem dX5_takeBack_26 : decode cX5_takeBack 26 = .ok (.iload_n 2, 1) := by decide +kernel
theorem dX5_takeBack_27 : decode cX5_takeBack 27 = .ok (.aaload, 1) := by decide +kernel
theorem dX5_takeBack_28 : decode cX5_takeBack 28 = .ok (.invokevirtual 32, 3) := by decide +kernel
theorem dX5_takeBack_31 : decode cX5_takeBack 31 = .ok (.aload_n 0, 1) := by decide +kernel
theorem dX5_takeBack_32 : decode cX5_takeBack 32 = .ok (.iload_n 2, 1) := by decide +kernel
theorem dX5_takeBack_33 : decode cX5_takeBack 33 = .ok (.putfield 22, 3) := by decide +kernel
theorem dX5_takeBack_36 : decode cX5_takeBack 36 = .ok (.aload_n 0, 1) := by decide +kernel
theorem dX5_takeBack_37 : decode cX5_takeBack 37 = .ok (.dup, 1) := by decide +kernel
theorem dX5_takeBack_38 : decode cX5_takeBack 38 = .ok (.getfield 36, 3) := by decide +kernel
theorem dX5_takeBack_41 : decode cX5_takeBack 41 = .ok (.iconst 1, 1) := by decide +kernel
theorem dX5_takeBack_42 : decode cX5_takeBack 42 = .ok (.isub, 1) := by decide +kernel
theorem dX5_takeBack_43 : decode cX5_takeBack 43 = .ok (.putfield 36, 3) := by decide +kernel
theorem dX5_takeBack_46 : decode cX5_takeBack 46 = .ok (.aload_n 0, 1) := by decide +kernel
theorem dX5_takeBack_47 : decode cX5_takeBack 47 = .ok (.dup, 1) := by decide +kernel
theorem dX5_takeBack_48 : decode cX5_takeBack 48 = .ok (.getfield 45, 3) := by decide +kernel
theorem dX5_takeBack_51 : decode cX5_takeBack 51 = .ok (.iconst 1, 1) := by decide +kernel
theorem dX5_takeBack_52 : decode cX5_takeBack 52 = .ok (.iadd, 1) := by decide +kernel
theorem dX5_takeBack_53 : decode cX5_takeBack 53 = .ok (.putfield 45, 3) := by decide +kernel
theorem dX5_takeBack_56 : decode cX5_takeBack 56 = .ok (.aload_n 0, 1) := by decide +kernel
theorem dX5_takeBack_57 : decode cX5_takeBack 57 = .ok (.getfield 11, 3) := by decide +kernel
theorem dX5_takeBack_60 : decode cX5_takeBack 60 = .ok (.iload_n 2, 1) := by decide +kernel
theorem dX5_takeBack_61 : decode cX5_takeBack 61 = .ok (.iaload, 1) := by decide +kernel
theorem dX5_takeBack_62 : decode cX5_takeBack 62 = .ok (.ireturn, 1) := by decide +kernel
set_option maxHeartbeats 4000000 in
set_option maxRecDepth 100000 in
theorem c_X5_takeBack (l : Launch) (E : fEv) (N : Nat) (k1 : Nat) (hk1 : kd k1 = 0) (σ : fS) (r : Int32) (τ : fS) (hG : g_X5_takeBack N k1 σ = some (r, τ)) : fM l E yX5_takeBack (.code yX5_takeBack cX5_takeBack 3 (some .int)) rm_X5_takeBack [.ref (E.2.1 6), .ref (E.2.1 k1)] σ τ (some (.int r)) := by
  refine f_openI (by decide) (Nat.le_of_ble_eq_true rfl) ?_
  intro p e s m below meth c args Q F hR hP ls hl
  have hx := F.1.1
  have hb := F.1.2.1
  have hown := F.1.2.2.2.1
  have hts := F.1.2.2.2.2
  have hS : va_S (f_A E) s.heap s.heap [] := va_S.rf
  skip
  have hl : lv_has ls 3 [(0, .ref (E.2.1 6)), (1, .ref (E.2.1 k1))] := hl
  unfold g_X5_takeBack at hG
  refine lv_aload_n hx hb dX5_takeBack_0 rfl (lv_at hl 0 rfl) ?_
  refine gf_X5_36 F hP dX5_takeBack_1 ?_
  refine lv_if_gt (tgt := 9) hx hb dX5_takeBack_4 (by decide) (fun c4 => ?_) (fun c4 => ?_)
  · have hG := f_ip c4 hG
    refine lv_aload_n hx hb dX5_takeBack_9 rfl (lv_at hl 0 rfl) ?_
    refine gf_X5_22 F hP dX5_takeBack_10 ?_
    refine lv_iconst (v := 1) hx hb dX5_takeBack_13 (by decide) ?_
    refine lv_isub hx hb dX5_takeBack_14 ?_
    refine lv_bipush (v := 12) hx hb dX5_takeBack_15 (by decide) ?_
    obtain ⟨r17, σ17, hC17, hG⟩ := f_bd hG
    refine iv_X5_26 F hS hP (c_J9_floorMod_7cf53 l E N ((σ.1 6 2) - (1 : Int32)) (12 : Int32) σ _ _ hC17) ⟨Nat.le_of_ble_eq_true rfl, Nat.le_of_ble_eq_true rfl⟩ hl.1 (Nat.le_of_ble_eq_true rfl) dX5_takeBack_17 ⟨Nat.zero_le _, Nat.zero_le _⟩ (fun H locs hP hS => ?_)
    refine lv_istore_n (lv' := [(2, .int r17), (0, .ref (E.2.1 6)), (1, .ref (E.2.1 k1))]) hx hb dX5_takeBack_20 rfl hl (by decide) rfl (fun ls hl => ?_)
    refine lv_aload_n hx hb dX5_takeBack_21 rfl (lv_at hl 2 rfl) ?_
    refine lv_aload_n hx hb dX5_takeBack_22 rfl (lv_at hl 1 rfl) ?_
    refine gf_X5_17 F hP dX5_takeBack_23 ?_
    refine lv_iload_n hx hb dX5_takeBack_26 rfl (lv_at hl 0 rfl) ?_
    obtain ⟨h27, hG⟩ := f_gd hG
    have i27 := f_fin h27
    refine x_aald F hP rfl rfl i27 dX5_takeBack_27 ?_
    obtain ⟨σ28, hC28, hG⟩ := f_bv hG
    refine iv_X5_32 F hS hP hk1 (c_X0_copy l E N k1 (er 8 (r17).toNatClampNeg) hk1 (kd_b i27) σ17 _ hC28) ⟨Nat.le_of_ble_eq_true rfl, Nat.le_of_ble_eq_true rfl⟩ hl.1 (Nat.le_of_ble_eq_true rfl) dX5_takeBack_28 ⟨Nat.zero_le _, Nat.zero_le _⟩ (fun H locs hP hS => ?_)
    refine lv_aload_n hx hb dX5_takeBack_31 rfl (lv_at hl 1 rfl) ?_
    refine lv_iload_n hx hb dX5_takeBack_32 rfl (lv_at hl 0 rfl) ?_
    refine pf_X5_22 F hS hP dX5_takeBack_33 (fun H locs hP hS => ?_)
    obtain ⟨σ33, e33⟩ : ∃ t : fS, t = sI σ28 6 2 r17 := ⟨_, rfl⟩
    rw [← e33] at hP
    have hG := f_lt hG e33
    refine lv_aload_n hx hb dX5_takeBack_36 rfl (lv_at hl 1 rfl) ?_
    refine lv_dup hx hb dX5_takeBack_37 rfl ?_
    refine gf_X5_36 F hP dX5_takeBack_38 ?_
    refine lv_iconst (v := 1) hx hb dX5_takeBack_41 (by decide) ?_
    refine lv_isub hx hb dX5_takeBack_42 ?_
    refine pf_X5_36 F hS hP dX5_takeBack_43 (fun H locs hP hS => ?_)
    obtain ⟨σ43, e43⟩ : ∃ t : fS, t = sI σ33 6 3 ((σ33.1 6 3) - (1 : Int32)) := ⟨_, rfl⟩
    rw [← e43] at hP
    have hG := f_lt hG e43
    refine lv_aload_n hx hb dX5_takeBack_46 rfl (lv_at hl 1 rfl) ?_
    refine lv_dup hx hb dX5_takeBack_47 rfl ?_
    refine gf_X5_45 F hP dX5_takeBack_48 ?_
    refine lv_iconst (v := 1) hx hb dX5_takeBack_51 (by decide) ?_
    refine lv_iadd hx hb dX5_takeBack_52 ?_
    refine pf_X5_45 F hS hP dX5_takeBack_53 (fun H locs hP hS => ?_)
    obtain ⟨σ53, e53⟩ : ∃ t : fS, t = sI σ43 6 5 ((σ43.1 6 5) + (1 : Int32)) := ⟨_, rfl⟩
    rw [← e53] at hP
    have hG := f_lt hG e53
    refine lv_aload_n hx hb dX5_takeBack_56 rfl (lv_at hl 1 rfl) ?_
    refine gf_X5_11 F hP dX5_takeBack_57 ?_
    refine lv_iload_n hx hb dX5_takeBack_60 rfl (lv_at hl 0 rfl) ?_
    obtain ⟨h61, hG⟩ := f_gd hG
    have i61 := f_fin h61
    refine x_iald F hP rfl rfl i61 dX5_takeBack_61 ?_
    exact x_ri hR hS hP hG dX5_takeBack_62
  · have hG := f_in c4 hG
    refine lv_iconst (v := -1) hx hb dX5_takeBack_7 (by decide) ?_
    exact x_ri hR hS hP hG dX5_takeBack_8
theorem dX6_unsquareBits_0 : decode cX6_unsquareBits 0 = .ok (.aload_n 0, 1) := by decide +kernel
theorem dX6_unsquareBits_1 : decode cX6_unsquareBits 1 = .ok (.invokevirtual 37, 3) := by decide +kernel
theorem dX6_unsquareBits_4 : decode cX6_unsquareBits 4 = .ok (.aload_n 0, 1) := by decide +kernel
theorem dX6_unsquareBits_5 : decode cX6_unsquareBits 5 = .ok (.iload_n 1, 1) := by decide +kernel
theorem dX6_unsquareBits_6 : decode cX6_unsquareBits 6 = .ok (.invokevirtual 33, 3) := by decide +kernel
theorem dX6_unsquareBits_9 : decode cX6_unsquareBits 9 = .ok (.aload_n 0, 1) := by decide +kernel
theorem dX6_unsquareBits_10 : decode cX6_unsquareBits 10 = .ok (.iconst 1, 1) := by decide +kernel
theorem dX6_unsquareBits_11 : decode cX6_unsquareBits 11 = .ok (.invokevirtual 33, 3) := by decide +kernel
theorem dX6_unsquareBits_14 : decode cX6_unsquareBits 14 = .ok (.aload_n 0, 1) := by decide +kernel
theorem dX6_unsquareBits_15 : decode cX6_unsquareBits 15 = .ok (.invokevirtual 40, 3) := by decide +kernel
theorem dX6_unsquareBits_18 : decode cX6_unsquareBits 18 = .ok (.ireturn, 1) := by decide +kernel
set_option maxHeartbeats 4000000 in
set_option maxRecDepth 100000 in
theorem c_X6_unsquareBits (l : Launch) (E : fEv) (N : Nat) (a1 : Int32) (σ : fS) (r : Int32) (τ : fS) (hG : g_X6_unsquareBits N a1 σ = some (r, τ)) : fM l E yX6_unsquareBits (.code yX6_unsquareBits cX6_unsquareBits 2 (some .int)) rm_X6_unsquareBits [.ref (E.2.1 16), .int a1] σ τ (some (.int r)) := by
  refine f_openI (by decide) (Nat.le_of_ble_eq_true rfl) ?_
  intro p e s m below meth c args Q F hR hP ls hl
  have hx := F.1.1
  have hb := F.1.2.1
  have hown := F.1.2.2.2.1
  have hts := F.1.2.2.2.2
  have hS : va_S (f_A E) s.heap s.heap [] := va_S.rf
  skip
  have hl : lv_has ls 2 [(0, .ref (E.2.1 16)), (1, .int a1)] := hl
  unfold g_X6_unsquareBits at hG
  refine lv_aload_n hx hb dX6_unsquareBits_0 rfl (lv_at hl 0 rfl) ?_
  obtain ⟨σ1, hC1, hG⟩ := f_bv hG
  refine iv_X6_37 F hS hP (c_X6_start l E N σ _ hC1) ⟨Nat.le_of_ble_eq_true rfl, Nat.le_of_ble_eq_true rfl⟩ hl.1 (Nat.le_of_ble_eq_true rfl) dX6_unsquareBits_1 ⟨Nat.zero_le _, Nat.zero_le _⟩ (fun H locs hP hS => ?_)
  refine lv_aload_n hx hb dX6_unsquareBits_4 rfl (lv_at hl 0 rfl) ?_
  refine lv_iload_n hx hb dX6_unsquareBits_5 rfl (lv_at hl 1 rfl) ?_
  obtain ⟨σ6, hC6, hG⟩ := f_bv hG
  refine iv_X6_33 F hS hP (c_X6_add l E N a1 σ1 _ hC6) ⟨Nat.le_of_ble_eq_true rfl, Nat.le_of_ble_eq_true rfl⟩ hl.1 (Nat.le_of_ble_eq_true rfl) dX6_unsquareBits_6 ⟨Nat.zero_le _, Nat.zero_le _⟩ (fun H locs hP hS => ?_)
  refine lv_aload_n hx hb dX6_unsquareBits_9 rfl (lv_at hl 0 rfl) ?_
  refine lv_iconst (v := 1) hx hb dX6_unsquareBits_10 (by decide) ?_
  obtain ⟨σ11, hC11, hG⟩ := f_bv hG
  refine iv_X6_33 F hS hP (c_X6_add l E N (1 : Int32) σ6 _ hC11) ⟨Nat.le_of_ble_eq_true rfl, Nat.le_of_ble_eq_true rfl⟩ hl.1 (Nat.le_of_ble_eq_true rfl) dX6_unsquareBits_11 ⟨Nat.zero_le _, Nat.zero_le _⟩ (fun H locs hP hS => ?_)
  refine lv_aload_n hx hb dX6_unsquareBits_14 rfl (lv_at hl 0 rfl) ?_
  obtain ⟨r15, σ15, hC15, hG⟩ := f_bd hG
  refine iv_X6_40 F hS hP (c_X6_bars l E N σ11 _ _ hC15) ⟨Nat.le_of_ble_eq_true rfl, Nat.le_of_ble_eq_true rfl⟩ hl.1 (Nat.le_of_ble_eq_true rfl) dX6_unsquareBits_15 ⟨Nat.zero_le _, Nat.zero_le _⟩ (fun H locs hP hS => ?_)
  exact x_ri hR hS hP hG dX6_unsquareBits_18
theorem dX7_letter_0 : decode cX7_letter 0 = .ok (.iload_n 1, 1) := by decide +kernel
theorem dX7_letter_1 : decode cX7_letter 1 = .ok (.bipush 32, 2) := by decide +kernel
theorem dX7_letter_3 : decode cX7_letter 3 = .ok (.if_icmp .lt 9, 3) := by decide +kernel
theorem dX7_letter_6 : decode cX7_letter 6 = .ok (.iload_n 1, 1) := by decide +kernel
theorem dX7_letter_7 : decode cX7_letter 7 = .ok (.bipush 126, 2) := by decide +kernel
theorem dX7_letter_9 : decode cX7_letter 9 = .ok (.if_icmp .le 6, 3) := by decide +kernel
theorem dX7_letter_12 : decode cX7_letter 12 = .ok (.bipush (-102), 2) := by decide +kernel
theorem dX7_letter_14 : decode cX7_letter 14 = .ok (.ireturn, 1) := by decide +kernel
theorem dX7_letter_15 : decode cX7_letter 15 = .ok (.aload_n 0, 1) := by decide +kernel
theorem dX7_letter_16 : decode cX7_letter 16 = .ok (.getfield 10, 3) := by decide +kernel
theorem dX7_letter_19 : decode cX7_letter 19 = .ok (.iload_n 1, 1) := by decide +kernel
theorem dX7_letter_20 : decode cX7_letter 20 = .ok (.invokevirtual 57, 3) := by decide +kernel
theorem dX7_letter_23 : decode cX7_letter 23 = .ok (.ifCond .eq 13, 3) := by decide +kernel
theorem dX7_letter_26 : decode cX7_letter 26 = .ok (.aload_n 0, 1) := by decide +kernel
theorem dX7_letter_27 : decode cX7_letter 27 = .ok (.getfield 10, 3) := by decide +kernel
theorem dX7_letter_30 : decode cX7_letter 30 = .ok (.getfield 61, 3) := by decide +kernel
theorem dX7_letter_33 : decode cX7_letter 33 = .ok (.goto 5, 3) := by decide +kernel
theorem dX7_letter_36 : decode cX7_letter 36 = .ok (.bipush (-104), 2) := by decide +kernel
theorem dX7_letter_38 : decode cX7_letter 38 = .ok (.ireturn, 1) := by decide +kernel
set_option maxHeartbeats 4000000 in
set_option maxRecDepth 100000 in
theorem c_X7_letter (l : Launch) (E : fEv) (N : Nat) (a1 : Int32) (σ : fS) (r : Int32) (τ : fS) (hG : g_X7_letter N a1 σ = some (r, τ)) : fM l E yX7_letter (.code yX7_letter cX7_letter 2 (some .int)) rm_X7_letter [.ref (E.2.1 0), .int a1] σ τ (some (.int r)) := by
  refine f_openI (by decide) (Nat.le_of_ble_eq_true rfl) ?_
  intro p e s m below meth c args Q F hR hP ls hl
  have hx := F.1.1
  have hb := F.1.2.1
  have hown := F.1.2.2.2.1
  have hts := F.1.2.2.2.2
  have hS : va_S (f_A E) s.heap s.heap [] := va_S.rf
  skip
  have hl : lv_has ls 2 [(0, .ref (E.2.1 0)), (1, .int a1)] := hl
  unfold g_X7_letter at hG
  refine lv_iload_n hx hb dX7_letter_0 rfl (lv_at hl 1 rfl) ?_
  refine lv_bipush (v := 32) hx hb dX7_letter_1 (by decide) ?_
  refine lv_icmp_lt (tgt := 12) hx hb dX7_letter_3 (by decide) (fun c3 => ?_) (fun c3 => ?_)
  · have hG := f_ip c3 hG
    refine lv_bipush (v := -102) hx hb dX7_letter_12 (by decide) ?_
    exact x_ri hR hS hP hG dX7_letter_14
  · have hG := f_in c3 hG
    refine lv_iload_n hx hb dX7_letter_6 rfl (lv_at hl 1 rfl) ?_
    refine lv_bipush (v := 126) hx hb dX7_letter_7 (by decide) ?_
    refine lv_icmp_le (tgt := 15) hx hb dX7_letter_9 (by decide) (fun c9 => ?_) (fun c9 => ?_)
    · have hG := f_ip c9 hG
      refine lv_aload_n hx hb dX7_letter_15 rfl (lv_at hl 0 rfl) ?_
      refine gf_X7_10 F hP dX7_letter_16 ?_
      refine lv_iload_n hx hb dX7_letter_19 rfl (lv_at hl 1 rfl) ?_
      obtain ⟨r20, σ20, hC20, hG⟩ := f_bd hG
      refine iv_X7_57 F hS hP (c_X3_write l E N a1 σ _ _ hC20) ⟨Nat.le_of_ble_eq_true rfl, Nat.le_of_ble_eq_true rfl⟩ hl.1 (Nat.le_of_ble_eq_true rfl) dX7_letter_20 ⟨Nat.zero_le _, Nat.zero_le _⟩ (fun H locs hP hS => ?_)
      refine lv_if_eq (tgt := 36) hx hb dX7_letter_23 (by decide) (fun c23 => ?_) (fun c23 => ?_)
      · have hG := f_ip c23 hG
        refine lv_bipush (v := -104) hx hb dX7_letter_36 (by decide) ?_
        exact x_ri hR hS hP hG dX7_letter_38
      · have hG := f_in c23 hG
        refine lv_aload_n hx hb dX7_letter_26 rfl (lv_at hl 0 rfl) ?_
        refine gf_X7_10 F hP dX7_letter_27 ?_
        refine gf_X7_61 F hP dX7_letter_30 ?_
        refine lv_goto (tgt := 38) hx hb dX7_letter_33 (by decide) ?_
        exact x_ri hR hS hP hG dX7_letter_38
    · have hG := f_in c9 hG
      refine lv_bipush (v := -102) hx hb dX7_letter_12 (by decide) ?_
      exact x_ri hR hS hP hG dX7_letter_14
theorem dX7_blank_0 : decode cX7_blank 0 = .ok (.aload_n 0, 1) := by decide +kernel
theorem dX7_blank_1 : decode cX7_blank 1 = .ok (.getfield 10, 3) := by decide +kernel
theorem dX7_blank_4 : decode cX7_blank 4 = .ok (.getfield 61, 3) := by decide +kernel
theorem dX7_blank_7 : decode cX7_blank 7 = .ok (.istore_n 1, 1) := by decide +kernel
theorem dX7_blank_8 : decode cX7_blank 8 = .ok (.aload_n 0, 1) := by decide +kernel
theorem dX7_blank_9 : decode cX7_blank 9 = .ok (.getfield 10, 3) := by decide +kernel
theorem dX7_blank_12 : decode cX7_blank 12 = .ok (.iconst 0, 1) := by decide +kernel
theorem dX7_blank_13 : decode cX7_blank 13 = .ok (.putfield 61, 3) := by decide +kernel
theorem dX7_blank_16 : decode cX7_blank 16 = .ok (.iload_n 1, 1) := by decide +kernel
theorem dX7_blank_17 : decode cX7_blank 17 = .ok (.ireturn, 1) := by decide +kernel
set_option maxHeartbeats 4000000 in
set_option maxRecDepth 100000 in
theorem c_X7_blank (l : Launch) (E : fEv) (N : Nat)  (σ : fS) (r : Int32) (τ : fS) (hG : g_X7_blank N  σ = some (r, τ)) : fM l E yX7_blank (.code yX7_blank cX7_blank 2 (some .int)) rm_X7_blank [.ref (E.2.1 0)] σ τ (some (.int r)) := by
  refine f_openI (by decide) (Nat.le_of_ble_eq_true rfl) ?_
  intro p e s m below meth c args Q F hR hP ls hl
  have hx := F.1.1
  have hb := F.1.2.1
  have hown := F.1.2.2.2.1
  have hts := F.1.2.2.2.2
  have hS : va_S (f_A E) s.heap s.heap [] := va_S.rf
  skip
  have hl : lv_has ls 2 [(0, .ref (E.2.1 0))] := hl
  unfold g_X7_blank at hG
  refine lv_aload_n hx hb dX7_blank_0 rfl (lv_at hl 0 rfl) ?_
  refine gf_X7_10 F hP dX7_blank_1 ?_
  refine gf_X7_61 F hP dX7_blank_4 ?_
  refine lv_topi (fun v7 e7 => ?_)
  have hG := f_lt hG e7
  refine lv_istore_n (lv' := [(1, .int v7), (0, .ref (E.2.1 0))]) hx hb dX7_blank_7 rfl hl (by decide) rfl (fun ls hl => ?_)
  refine lv_aload_n hx hb dX7_blank_8 rfl (lv_at hl 1 rfl) ?_
  refine gf_X7_10 F hP dX7_blank_9 ?_
  refine lv_iconst (v := 0) hx hb dX7_blank_12 (by decide) ?_
  refine pf_X7_61 F hS hP dX7_blank_13 (fun H locs hP hS => ?_)
  obtain ⟨σ13, e13⟩ : ∃ t : fS, t = sI σ 1 1 (0 : Int32) := ⟨_, rfl⟩
  rw [← e13] at hP
  have hG := f_lt hG e13
  refine lv_iload_n hx hb dX7_blank_16 rfl (lv_at hl 0 rfl) ?_
  exact x_ri hR hS hP hG dX7_blank_17
theorem dX7_fault_0 : decode cX7_fault 0 = .ok (.aload_n 0, 1) := by decide +kernel
theorem dX7_fault_1 : decode cX7_fault 1 = .ok (.getfield 10, 3) := by decide +kernel
theorem dX7_fault_4 : decode cX7_fault 4 = .ok (.aload_n 0, 1) := by decide +kernel
theorem dX7_fault_5 : decode cX7_fault 5 = .ok (.getfield 23, 3) := by decide +kernel
theorem dX7_fault_8 : decode cX7_fault 8 = .ok (.invokevirtual 65, 3) := by decide +kernel
theorem dX7_fault_11 : decode cX7_fault 11 = .ok (.ireturn, 1) := by decide +kernel
set_option maxHeartbeats 4000000 in
set_option maxRecDepth 100000 in
theorem c_X7_fault (l : Launch) (E : fEv) (N : Nat)  (σ : fS) (r : Int32) (τ : fS) (hG : g_X7_fault N  σ = some (r, τ)) : fM l E yX7_fault (.code yX7_fault cX7_fault 1 (some .int)) rm_X7_fault [.ref (E.2.1 0)] σ τ (some (.int r)) := by
  refine f_openI (by decide) (Nat.le_of_ble_eq_true rfl) ?_
  intro p e s m below meth c args Q F hR hP ls hl
  have hx := F.1.1
  have hb := F.1.2.1
  have hown := F.1.2.2.2.1
  have hts := F.1.2.2.2.2
  have hS : va_S (f_A E) s.heap s.heap [] := va_S.rf
  skip
  have hl : lv_has ls 1 [(0, .ref (E.2.1 0))] := hl
  unfold g_X7_fault at hG
  refine lv_aload_n hx hb dX7_fault_0 rfl (lv_at hl 0 rfl) ?_
  refine gf_X7_10 F hP dX7_fault_1 ?_
  refine lv_aload_n hx hb dX7_fault_4 rfl (lv_at hl 0 rfl) ?_
  refine gf_X7_23 F hP dX7_fault_5 ?_
  obtain ⟨r8, σ8, hC8, hG⟩ := f_bd hG
  refine iv_X7_65 F hS hP (c_X3_readInto l E N 4 rfl σ _ _ hC8) ⟨Nat.le_of_ble_eq_true rfl, Nat.le_of_ble_eq_true rfl⟩ hl.1 (Nat.le_of_ble_eq_true rfl) dX7_fault_8 ⟨Nat.zero_le _, Nat.zero_le _⟩ (fun H locs hP hS => ?_)
  exact x_ri hR hS hP hG dX7_fault_11
theorem dX7_isShelf_0 : decode cX7_isShelf 0 = .ok (.iload_n 0, 1) := by decide +kernel
theorem dX7_isShelf_1 : decode cX7_isShelf 1 = .ok (.ifCond .lt 13, 3) := by decide +kernel
theorem dX7_isShelf_4 : decode cX7_isShelf 4 = .ok (.iload_n 0, 1) := by decide +kernel
theorem dX7_isShelf_5 : decode cX7_isShelf 5 = .ok (.bipush 8, 2) := by decide +kernel
theorem dX7_isShelf_7 : decode cX7_isShelf 7 = .ok (.if_icmp .ge 7, 3) := by decide +kernel
theorem dX7_isShelf_10 : decode cX7_isShelf 10 = .ok (.iconst 1, 1) := by decide +kernel
theorem dX7_isShelf_11 : decode cX7_isShelf 11 = .ok (.goto 4, 3) := by decide +kernel
theorem dX7_isShelf_14 : decode cX7_isShelf 14 = .ok (.iconst 0, 1) := by decide +kernel
theorem dX7_isShelf_15 : decode cX7_isShelf 15 = .ok (.ireturn, 1) := by decide +kernel
set_option maxHeartbeats 4000000 in
set_option maxRecDepth 100000 in
theorem c_X7_isShelf (l : Launch) (E : fEv) (N : Nat) (a0 : Int32) (σ : fS) (r : Int32) (τ : fS) (hG : g_X7_isShelf N a0 σ = some (r, τ)) : fM l E yX7_isShelf (.code yX7_isShelf cX7_isShelf 1 (some .boolean)) rm_X7_isShelf [.int a0] σ τ (some (.int r)) := by
  refine f_openZ (by decide) (Nat.le_of_ble_eq_true rfl) ?_
  intro p e s m below meth c args Q F hR hP ls hl
  have hx := F.1.1
  have hb := F.1.2.1
  have hown := F.1.2.2.2.1
  have hts := F.1.2.2.2.2
  have hS : va_S (f_A E) s.heap s.heap [] := va_S.rf
  skip
  have hl : lv_has ls 1 [(0, .int a0)] := hl
  unfold g_X7_isShelf at hG
  refine lv_iload_n hx hb dX7_isShelf_0 rfl (lv_at hl 0 rfl) ?_
  refine lv_if_lt (tgt := 14) hx hb dX7_isShelf_1 (by decide) (fun c1 => ?_) (fun c1 => ?_)
  · have hG := f_ip c1 hG
    refine lv_iconst (v := 0) hx hb dX7_isShelf_14 (by decide) ?_
    exact x_rz hR hS hP (Or.inl rfl) hG dX7_isShelf_15
  · have hG := f_in c1 hG
    refine lv_iload_n hx hb dX7_isShelf_4 rfl (lv_at hl 0 rfl) ?_
    refine lv_bipush (v := 8) hx hb dX7_isShelf_5 (by decide) ?_
    refine lv_icmp_ge (tgt := 14) hx hb dX7_isShelf_7 (by decide) (fun c7 => ?_) (fun c7 => ?_)
    · have hG := f_ip c7 hG
      refine lv_iconst (v := 0) hx hb dX7_isShelf_14 (by decide) ?_
      exact x_rz hR hS hP (Or.inl rfl) hG dX7_isShelf_15
    · have hG := f_in c7 hG
      refine lv_iconst (v := 1) hx hb dX7_isShelf_10 (by decide) ?_
      refine lv_goto (tgt := 15) hx hb dX7_isShelf_11 (by decide) ?_
      exact x_rz hR hS hP (Or.inr rfl) hG dX7_isShelf_15
theorem dX7_shelveDraft_0 : decode cX7_shelveDraft 0 = .ok (.iload_n 1, 1) := by decide +kernel
theorem dX7_shelveDraft_1 : decode cX7_shelveDraft 1 = .ok (.invokestatic 69, 3) := by decide +kernel
theorem dX7_shelveDraft_4 : decode cX7_shelveDraft 4 = .ok (.ifCond .ne 4, 3) := by decide +kernel
theorem dX7_shelveDraft_7 : decode cX7_shelveDraft 7 = .ok (.return_, 1) := by decide +kernel
theorem dX7_shelveDraft_8 : decode cX7_shelveDraft 8 = .ok (.aload_n 0, 1) := by decide +kernel
theorem dX7_shelveDraft_9 : decode cX7_shelveDraft 9 = .ok (.getfield 23, 3) := by decide +kernel
theorem dX7_shelveDraft_12 : decode cX7_shelveDraft 12 = .ok (.aload_n 0, 1) := by decide +kernel
theorem dX7_shelveDraft_13 : decode cX7_shelveDraft 13 = .ok (.getfield 44, 3) := by decide +kernel
theorem dX7_shelveDraft_16 : decode cX7_shelveDraft 16 = .ok (.invokevirtual 271, 3) := by decide +kernel
theorem dX7_shelveDraft_19 : decode cX7_shelveDraft 19 = .ok (.aload_n 0, 1) := by decide +kernel
theorem dX7_shelveDraft_20 : decode cX7_shelveDraft 20 = .ok (.getfield 30, 3) := by decide +kernel
theorem dX7_shelveDraft_23 : decode cX7_shelveDraft 23 = .ok (.iload_n 1, 1) := by decide +kernel
theorem dX7_shelveDraft_24 : decode cX7_shelveDraft 24 = .ok (.aload_n 0, 1) := by decide +kernel
theorem dX7_shelveDraft_25 : decode cX7_shelveDraft 25 = .ok (.getfield 18, 3) := by decide +kernel
theorem dX7_shelveDraft_28 : decode cX7_shelveDraft 28 = .ok (.iload_n 1, 1) := by decide +kernel
theorem dX7_shelveDraft_29 : decode cX7_shelveDraft 29 = .ok (.aaload, 1) := by decide +kernel
theorem dX7_shelveDraft_30 : decode cX7_shelveDraft 30 = .ok (.invokevirtual 274, 3) := by decide +kernel
theorem dX7_shelveDraft_33 : decode cX7_shelveDraft 33 = .ok (.aload_n 0, 1) := by decide +kernel
theorem dX7_shelveDraft_34 : decode cX7_shelveDraft 34 = .ok (.getfield 18, 3) := by decide +kernel
theorem dX7_shelveDraft_37 : decode cX7_shelveDraft 37 = .ok (.iload_n 1, 1) := by decide +kernel
theorem dX7_shelveDraft_38 : decode cX7_shelveDraft 38 = .ok (.aaload, 1) := by decide +kernel
theorem dX7_shelveDraft_39 : decode cX7_shelveDraft 39 = .ok (.aload_n 0, 1) := by decide +kernel
theorem dX7_shelveDraft_40 : decode cX7_shelveDraft 40 = .ok (.getfield 23, 3) := by decide +kernel
theorem dX7_shelveDraft_43 : decode cX7_shelveDraft 43 = .ok (.invokevirtual 171, 3) := by decide +kernel
theorem dX7_shelveDraft_46 : decode cX7_shelveDraft 46 = .ok (.return_, 1) := by decide +kernel
set_option maxHeartbeats 4000000 in
set_option maxRecDepth 100000 in
theorem c_X7_shelveDraft (l : Launch) (E : fEv) (N : Nat) (a1 : Int32) (σ : fS) (τ : fS) (hG : g_X7_shelveDraft N a1 σ = some τ) : fM l E yX7_shelveDraft (.code yX7_shelveDraft cX7_shelveDraft 2 none) rm_X7_shelveDraft [.ref (E.2.1 0), .int a1] σ τ none := by
  refine f_openV (by decide) (Nat.le_of_ble_eq_true rfl) ?_
  intro p e s m below meth c args Q F hR hP ls hl
  have hx := F.1.1
  have hb := F.1.2.1
  have hown := F.1.2.2.2.1
  have hts := F.1.2.2.2.2
  have hS : va_S (f_A E) s.heap s.heap [] := va_S.rf
  skip
  have hl : lv_has ls 2 [(0, .ref (E.2.1 0)), (1, .int a1)] := hl
  unfold g_X7_shelveDraft at hG
  refine lv_iload_n hx hb dX7_shelveDraft_0 rfl (lv_at hl 1 rfl) ?_
  obtain ⟨r1, σ1, hC1, hG⟩ := f_bd hG
  refine iv_X7_69 F hS hP (c_X7_isShelf l E N a1 σ _ _ hC1) ⟨Nat.le_of_ble_eq_true rfl, Nat.le_of_ble_eq_true rfl⟩ hl.1 (Nat.le_of_ble_eq_true rfl) dX7_shelveDraft_1 ⟨Nat.zero_le _, Nat.zero_le _⟩ (fun H locs hP hS => ?_)
  refine lv_if_ne (tgt := 8) hx hb dX7_shelveDraft_4 (by decide) (fun c4 => ?_) (fun c4 => ?_)
  · have hG := f_in c4 hG
    refine lv_aload_n hx hb dX7_shelveDraft_8 rfl (lv_at hl 0 rfl) ?_
    refine gf_X7_23 F hP dX7_shelveDraft_9 ?_
    refine lv_aload_n hx hb dX7_shelveDraft_12 rfl (lv_at hl 0 rfl) ?_
    refine gf_X7_44 F hP dX7_shelveDraft_13 ?_
    obtain ⟨σ16, hC16, hG⟩ := f_bv hG
    refine iv_X7_271 F hS hP rfl (c_X0_settle l E N 4 rfl σ1 _ hC16) ⟨Nat.le_of_ble_eq_true rfl, Nat.le_of_ble_eq_true rfl⟩ hl.1 (Nat.le_of_ble_eq_true rfl) dX7_shelveDraft_16 ⟨Nat.zero_le _, Nat.zero_le _⟩ (fun H locs hP hS => ?_)
    refine lv_aload_n hx hb dX7_shelveDraft_19 rfl (lv_at hl 0 rfl) ?_
    refine gf_X7_30 F hP dX7_shelveDraft_20 ?_
    refine lv_iload_n hx hb dX7_shelveDraft_23 rfl (lv_at hl 1 rfl) ?_
    refine lv_aload_n hx hb dX7_shelveDraft_24 rfl (lv_at hl 0 rfl) ?_
    refine gf_X7_18 F hP dX7_shelveDraft_25 ?_
    refine lv_iload_n hx hb dX7_shelveDraft_28 rfl (lv_at hl 1 rfl) ?_
    obtain ⟨h29, hG⟩ := f_gd hG
    have i29 := f_fin h29
    refine x_aald F hP rfl rfl i29 dX7_shelveDraft_29 ?_
    obtain ⟨σ30, hC30, hG⟩ := f_bv hG
    refine iv_X7_274 F hS hP (c_X5_keep l E N a1 (er 3 (a1).toNatClampNeg) (kd_s i29) σ16 _ hC30) ⟨Nat.le_of_ble_eq_true rfl, Nat.le_of_ble_eq_true rfl⟩ hl.1 (Nat.le_of_ble_eq_true rfl) dX7_shelveDraft_30 ⟨Nat.zero_le _, Nat.zero_le _⟩ (fun H locs hP hS => ?_)
    refine lv_aload_n hx hb dX7_shelveDraft_33 rfl (lv_at hl 0 rfl) ?_
    refine gf_X7_18 F hP dX7_shelveDraft_34 ?_
    refine lv_iload_n hx hb dX7_shelveDraft_37 rfl (lv_at hl 1 rfl) ?_
    obtain ⟨h38, hG⟩ := f_gd hG
    have i38 := f_fin h38
    refine x_aald F hP rfl rfl i38 dX7_shelveDraft_38 ?_
    refine lv_aload_n hx hb dX7_shelveDraft_39 rfl (lv_at hl 0 rfl) ?_
    refine gf_X7_23 F hP dX7_shelveDraft_40 ?_
    obtain ⟨σ43, hC43, hG⟩ := f_bv hG
    refine iv_X7_171 F hS hP (kd_s i38) (c_X0_copy l E N (er 3 (a1).toNatClampNeg) 4 (kd_s i38) rfl σ30 _ hC43) ⟨Nat.le_of_ble_eq_true rfl, Nat.le_of_ble_eq_true rfl⟩ hl.1 (Nat.le_of_ble_eq_true rfl) dX7_shelveDraft_43 ⟨Nat.zero_le _, Nat.zero_le _⟩ (fun H locs hP hS => ?_)
    exact x_rv hR hS hP hG dX7_shelveDraft_46
  · have hG := f_ip c4 hG
    exact x_rv hR hS hP hG dX7_shelveDraft_7
