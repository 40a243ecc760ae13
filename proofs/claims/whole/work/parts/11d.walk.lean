theorem dX7_countTerms_0 : decode cX7_countTerms 0 = .ok (.iconst 0, 1) := by decide +kernel
theorem dX7_countTerms_1 : decode cX7_countTerms 1 = .ok (.istore_n 1, 1) := by decide +kernel
theorem dX7_countTerms_2 : decode cX7_countTerms 2 = .ok (.iconst 0, 1) := by decide +kernel
theorem dX7_countTerms_3 : decode cX7_countTerms 3 = .ok (.istore_n 2, 1) := by decide +kernel
theorem dX7_countTerms_4 : decode cX7_countTerms 4 = .ok (.iload_n 2, 1) := by decide +kernel
theorem dX7_countTerms_5 : decode cX7_countTerms 5 = .ok (.bipush 8, 2) := by decide +kernel
theorem dX7_countTerms_7 : decode cX7_countTerms 7 = .ok (.if_icmp .ge 21, 3) := by decide +kernel
theorem dX7_countTerms_10 : decode cX7_countTerms 10 = .ok (.iload_n 1, 1) := by decide +kernel
theorem dX7_countTerms_11 : decode cX7_countTerms 11 = .ok (.aload_n 0, 1) := by decide +kernel
theorem dX7_countTerms_12 : decode cX7_countTerms 12 = .ok (.getfield 18, 3) := by decide +kernel
theorem dX7_countTerms_15 : decode cX7_countTerms 15 = .ok (.iload_n 2, 1) := by decide +kernel
theorem dX7_countTerms_16 : decode cX7_countTerms 16 = .ok (.aaload, 1) := by decide +kernel
theorem dX7_countTerms_17 : decode cX7_countTerms 17 = .ok (.getfield 80, 3) := by decide +kernel
theorem dX7_countTerms_20 : decode cX7_countTerms 20 = .ok (.iadd, 1) := by decide +kernel
theorem dX7_countTerms_21 : decode cX7_countTerms 21 = .ok (.istore_n 1, 1) := by decide +kernel
theorem dX7_countTerms_22 : decode cX7_countTerms 22 = .ok (.iinc 2 1, 3) := by decide +kernel
theorem dX7_countTerms_25 : decode cX7_countTerms 25 = .ok (.goto (-21), 3) := by decide +kernel
theorem dX7_countTerms_28 : decode cX7_countTerms 28 = .ok (.iload_n 1, 1) := by decide +kernel
theorem dX7_countTerms_29 : decode cX7_countTerms 29 = .ok (.ireturn, 1) := by decide +kernel
set_option maxHeartbeats 4000000 in
set_option maxRecDepth 100000 in
theorem c_X7_countTerms (l : Launch) (E : fEv) (N : Nat)  (σ : fS) (r : Int32) (τ : fS) (hG : g_X7_countTerms N  σ = some (r, τ)) : fM l E yX7_countTerms (.code yX7_countTerms cX7_countTerms 3 (some .int)) rm_X7_countTerms [.ref (E.2.1 0)] σ τ (some (.int r)) := by
  refine f_openI (by decide) (Nat.le_of_ble_eq_true rfl) ?_
  intro p e s m below meth c args Q F hR hP ls hl
  have hx := F.1.1
  have hb := F.1.2.1
  have hown := F.1.2.2.2.1
  have hts := F.1.2.2.2.2
  have hS : va_S (f_A E) s.heap s.heap [] := va_S.rf
  skip
  have hl : lv_has ls 3 [(0, .ref (E.2.1 0))] := hl
  unfold g_X7_countTerms at hG
  refine lv_iconst (v := 0) hx hb dX7_countTerms_0 (by decide) ?_
  refine lv_istore_n (lv' := [(1, .int (0 : Int32)), (0, .ref (E.2.1 0))]) hx hb dX7_countTerms_1 rfl hl (by decide) rfl (fun ls hl => ?_)
  refine lv_iconst (v := 0) hx hb dX7_countTerms_2 (by decide) ?_
  refine lv_istore_n (lv' := [(2, .int (0 : Int32)), (1, .int (0 : Int32)), (0, .ref (E.2.1 0))]) hx hb dX7_countTerms_3 rfl hl (by decide) rfl (fun ls hl => ?_)
  obtain ⟨o4, σl4, hT4, hG⟩ := f_bd hG
  have T4 : ∀ (H : Heap) (locs : List Loc) (ls : Array Slot), f_h E σl4 H → va_S (f_A E) s.heap H locs → lv_has ls 3 [(1, .int o4)] → W p l e rm_X7_countTerms s m args below meth c H locs 0 0 Q (F0 m 28 ls []) := by
    intro H locs ls hP hS hl
    refine lv_iload_n hx hb dX7_countTerms_28 rfl (lv_at hl 0 rfl) ?_
    exact x_ri hR hS hP hG dX7_countTerms_29
  have L4 : ∀ (n4 : Nat) (x4_1 : Int32) (x4_2 : Int32) (σh4 : fS) (H : Heap) (locs : List Loc) (ls : Array Slot), f_h E σh4 H → va_S (f_A E) s.heap H locs → lv_has ls 3 [(0, .ref (E.2.1 0)), (1, .int x4_1), (2, .int x4_2)] → lp_X7_countTerms_4 N n4 x4_1 x4_2 σh4 = some (o4, σl4) → W p l e rm_X7_countTerms s m args below meth c H locs 0 0 Q (F0 m 4 ls []) := by
    intro n4
    induction n4 with
    | zero =>
      intro x4_1 x4_2 σh4 H locs ls hP hS hl hG
      rw [lp_X7_countTerms_4] at hG
      cases hG
    | succ n4 ih4 =>
      intro x4_1 x4_2 σh4 H locs ls hP hS hl hG
      rw [lp_X7_countTerms_4] at hG
      refine lv_iload_n hx hb dX7_countTerms_4 rfl (lv_at hl 2 rfl) ?_
      refine lv_bipush (v := 8) hx hb dX7_countTerms_5 (by decide) ?_
      refine lv_icmp_ge (tgt := 28) hx hb dX7_countTerms_7 (by decide) (fun c7 => ?_) (fun c7 => ?_)
      · have hG := f_ip c7 hG
        cases hG
        exact T4 _ _ _ hP hS (lv_sub hl [1] rfl)
      · have hG := f_in c7 hG
        refine lv_iload_n hx hb dX7_countTerms_10 rfl (lv_at hl 1 rfl) ?_
        refine lv_aload_n hx hb dX7_countTerms_11 rfl (lv_at hl 0 rfl) ?_
        refine gf_X7_18 F hP dX7_countTerms_12 ?_
        refine lv_iload_n hx hb dX7_countTerms_15 rfl (lv_at hl 2 rfl) ?_
        obtain ⟨h16, hG⟩ := f_gd hG
        have i16 := f_fin h16
        refine x_aald F hP rfl rfl i16 dX7_countTerms_16 ?_
        refine gf_X7_80 F hP (kd_s i16) dX7_countTerms_17 ?_
        refine lv_iadd hx hb dX7_countTerms_20 ?_
        refine lv_topi (fun v21 e21 => ?_)
        have hG := f_lt hG e21
        refine lv_istore_n (lv' := [(1, .int v21), (0, .ref (E.2.1 0)), (2, .int x4_2)]) hx hb dX7_countTerms_21 rfl hl (by decide) rfl (fun ls hl => ?_)
        refine lv_iinc (v := (x4_2 + (1 : Int32))) (lv' := [(2, .int (x4_2 + (1 : Int32))), (1, .int v21), (0, .ref (E.2.1 0))]) hx hb dX7_countTerms_22 hl (k := 2) rfl (by rfl) (by decide) rfl (fun ls hl => ?_)
        refine lv_goto (tgt := 4) hx hb dX7_countTerms_25 (by decide) ?_
        exact ih4 v21 (x4_2 + (1 : Int32)) σh4 _ _ _ hP hS (lv_sub hl [2, 1, 0] rfl) hG
  exact L4 N (0 : Int32) (0 : Int32) σ _ _ _ hP hS (lv_sub hl [2, 1, 0] rfl) hT4
theorem dX7_countUnlike_0 : decode cX7_countUnlike 0 = .ok (.iconst 0, 1) := by decide +kernel
theorem dX7_countUnlike_1 : decode cX7_countUnlike 1 = .ok (.istore_n 1, 1) := by decide +kernel
theorem dX7_countUnlike_2 : decode cX7_countUnlike 2 = .ok (.iconst 0, 1) := by decide +kernel
theorem dX7_countUnlike_3 : decode cX7_countUnlike 3 = .ok (.istore_n 2, 1) := by decide +kernel
theorem dX7_countUnlike_4 : decode cX7_countUnlike 4 = .ok (.iload_n 2, 1) := by decide +kernel
theorem dX7_countUnlike_5 : decode cX7_countUnlike 5 = .ok (.bipush 8, 2) := by decide +kernel
theorem dX7_countUnlike_7 : decode cX7_countUnlike 7 = .ok (.if_icmp .ge 34, 3) := by decide +kernel
theorem dX7_countUnlike_10 : decode cX7_countUnlike 10 = .ok (.iload_n 1, 1) := by decide +kernel
theorem dX7_countUnlike_11 : decode cX7_countUnlike 11 = .ok (.aload_n 0, 1) := by decide +kernel
theorem dX7_countUnlike_12 : decode cX7_countUnlike 12 = .ok (.iload_n 2, 1) := by decide +kernel
theorem dX7_countUnlike_13 : decode cX7_countUnlike 13 = .ok (.invokevirtual 115, 3) := by decide +kernel
theorem dX7_countUnlike_16 : decode cX7_countUnlike 16 = .ok (.ifCond .eq 16, 3) := by decide +kernel
theorem dX7_countUnlike_19 : decode cX7_countUnlike 19 = .ok (.aload_n 0, 1) := by decide +kernel
theorem dX7_countUnlike_20 : decode cX7_countUnlike 20 = .ok (.iload_n 2, 1) := by decide +kernel
theorem dX7_countUnlike_21 : decode cX7_countUnlike 21 = .ok (.invokevirtual 141, 3) := by decide +kernel
theorem dX7_countUnlike_24 : decode cX7_countUnlike 24 = .ok (.iload_n 2, 1) := by decide +kernel
theorem dX7_countUnlike_25 : decode cX7_countUnlike 25 = .ok (.if_icmp .ne 7, 3) := by decide +kernel
theorem dX7_countUnlike_28 : decode cX7_countUnlike 28 = .ok (.iconst 1, 1) := by decide +kernel
theorem dX7_countUnlike_29 : decode cX7_countUnlike 29 = .ok (.goto 4, 3) := by decide +kernel
theorem dX7_countUnlike_32 : decode cX7_countUnlike 32 = .ok (.iconst 0, 1) := by decide +kernel
theorem dX7_countUnlike_33 : decode cX7_countUnlike 33 = .ok (.iadd, 1) := by decide +kernel
theorem dX7_countUnlike_34 : decode cX7_countUnlike 34 = .ok (.istore_n 1, 1) := by decide +kernel
theorem dX7_countUnlike_35 : decode cX7_countUnlike 35 = .ok (.iinc 2 1, 3) := by decide +kernel
theorem dX7_countUnlike_38 : decode cX7_countUnlike 38 = .ok (.goto (-34), 3) := by decide +kernel
theorem dX7_countUnlike_41 : decode cX7_countUnlike 41 = .ok (.iload_n 1, 1) := by decide +kernel
theorem dX7_countUnlike_42 : decode cX7_countUnlike 42 = .ok (.ireturn, 1) := by decide +kernel
set_option maxHeartbeats 4000000 in
set_option maxRecDepth 100000 in
theorem c_X7_countUnlike (l : Launch) (E : fEv) (N : Nat)  (σ : fS) (r : Int32) (τ : fS) (hG : g_X7_countUnlike N  σ = some (r, τ)) : fM l E yX7_countUnlike (.code yX7_countUnlike cX7_countUnlike 3 (some .int)) rm_X7_countUnlike [.ref (E.2.1 0)] σ τ (some (.int r)) := by
  refine f_openI (by decide) (Nat.le_of_ble_eq_true rfl) ?_
  intro p e s m below meth c args Q F hR hP ls hl
  have hx := F.1.1
  have hb := F.1.2.1
  have hown := F.1.2.2.2.1
  have hts := F.1.2.2.2.2
  have hS : va_S (f_A E) s.heap s.heap [] := va_S.rf
  skip
  have hl : lv_has ls 3 [(0, .ref (E.2.1 0))] := hl
  unfold g_X7_countUnlike at hG
  refine lv_iconst (v := 0) hx hb dX7_countUnlike_0 (by decide) ?_
  refine lv_istore_n (lv' := [(1, .int (0 : Int32)), (0, .ref (E.2.1 0))]) hx hb dX7_countUnlike_1 rfl hl (by decide) rfl (fun ls hl => ?_)
  refine lv_iconst (v := 0) hx hb dX7_countUnlike_2 (by decide) ?_
  refine lv_istore_n (lv' := [(2, .int (0 : Int32)), (1, .int (0 : Int32)), (0, .ref (E.2.1 0))]) hx hb dX7_countUnlike_3 rfl hl (by decide) rfl (fun ls hl => ?_)
  obtain ⟨o4, σl4, hT4, hG⟩ := f_bd hG
  have T4 : ∀ (H : Heap) (locs : List Loc) (ls : Array Slot), f_h E σl4 H → va_S (f_A E) s.heap H locs → lv_has ls 3 [(1, .int o4)] → W p l e rm_X7_countUnlike s m args below meth c H locs 0 0 Q (F0 m 41 ls []) := by
    intro H locs ls hP hS hl
    refine lv_iload_n hx hb dX7_countUnlike_41 rfl (lv_at hl 0 rfl) ?_
    exact x_ri hR hS hP hG dX7_countUnlike_42
  have L4 : ∀ (n4 : Nat) (x4_1 : Int32) (x4_2 : Int32) (σh4 : fS) (H : Heap) (locs : List Loc) (ls : Array Slot), f_h E σh4 H → va_S (f_A E) s.heap H locs → lv_has ls 3 [(0, .ref (E.2.1 0)), (1, .int x4_1), (2, .int x4_2)] → lp_X7_countUnlike_4 N n4 x4_1 x4_2 σh4 = some (o4, σl4) → W p l e rm_X7_countUnlike s m args below meth c H locs 0 0 Q (F0 m 4 ls []) := by
    intro n4
    induction n4 with
    | zero =>
      intro x4_1 x4_2 σh4 H locs ls hP hS hl hG
      rw [lp_X7_countUnlike_4] at hG
      cases hG
    | succ n4 ih4 =>
      intro x4_1 x4_2 σh4 H locs ls hP hS hl hG
      rw [lp_X7_countUnlike_4] at hG
      refine lv_iload_n hx hb dX7_countUnlike_4 rfl (lv_at hl 2 rfl) ?_
      refine lv_bipush (v := 8) hx hb dX7_countUnlike_5 (by decide) ?_
      refine lv_icmp_ge (tgt := 41) hx hb dX7_countUnlike_7 (by decide) (fun c7 => ?_) (fun c7 => ?_)
      · have hG := f_ip c7 hG
        cases hG
        exact T4 _ _ _ hP hS (lv_sub hl [1] rfl)
      · have hG := f_in c7 hG
        refine lv_iload_n hx hb dX7_countUnlike_10 rfl (lv_at hl 1 rfl) ?_
        refine lv_aload_n hx hb dX7_countUnlike_11 rfl (lv_at hl 0 rfl) ?_
        refine lv_iload_n hx hb dX7_countUnlike_12 rfl (lv_at hl 2 rfl) ?_
        obtain ⟨r13, σ13, hC13, hG⟩ := f_bd hG
        refine iv_X7_115 F hS hP (c_X7_hasForm l E N x4_2 σh4 _ _ hC13) ⟨Nat.le_of_ble_eq_true rfl, Nat.le_of_ble_eq_true rfl⟩ hl.1 (Nat.le_of_ble_eq_true rfl) dX7_countUnlike_13 ⟨Nat.zero_le _, Nat.zero_le _⟩ (fun H locs hP hS => ?_)
        refine lv_if_eq (tgt := 32) hx hb dX7_countUnlike_16 (by decide) (fun c16 => ?_) (fun c16 => ?_)
        · have hG := f_ip c16 hG
          refine lv_iconst (v := 0) hx hb dX7_countUnlike_32 (by decide) ?_
          refine lv_iadd hx hb dX7_countUnlike_33 ?_
          refine lv_topi (fun v34 e34 => ?_)
          have hG := f_lt hG e34
          refine lv_istore_n (lv' := [(1, .int v34), (0, .ref (E.2.1 0)), (2, .int x4_2)]) hx hb dX7_countUnlike_34 rfl hl (by decide) rfl (fun ls hl => ?_)
          refine lv_iinc (v := (x4_2 + (1 : Int32))) (lv' := [(2, .int (x4_2 + (1 : Int32))), (1, .int v34), (0, .ref (E.2.1 0))]) hx hb dX7_countUnlike_35 hl (k := 2) rfl (by rfl) (by decide) rfl (fun ls hl => ?_)
          refine lv_goto (tgt := 4) hx hb dX7_countUnlike_38 (by decide) ?_
          exact ih4 v34 (x4_2 + (1 : Int32)) σ13 _ _ _ hP hS (lv_sub hl [2, 1, 0] rfl) hG
        · have hG := f_in c16 hG
          refine lv_aload_n hx hb dX7_countUnlike_19 rfl (lv_at hl 0 rfl) ?_
          refine lv_iload_n hx hb dX7_countUnlike_20 rfl (lv_at hl 2 rfl) ?_
          obtain ⟨r21, σ21, hC21, hG⟩ := f_bd hG
          refine iv_X7_141 F hS hP (c_X7_leastLike l E N x4_2 σ13 _ _ hC21) ⟨Nat.le_of_ble_eq_true rfl, Nat.le_of_ble_eq_true rfl⟩ hl.1 (Nat.le_of_ble_eq_true rfl) dX7_countUnlike_21 ⟨Nat.zero_le _, Nat.zero_le _⟩ (fun H locs hP hS => ?_)
          refine lv_iload_n hx hb dX7_countUnlike_24 rfl (lv_at hl 2 rfl) ?_
          refine lv_icmp_ne (tgt := 32) hx hb dX7_countUnlike_25 (by decide) (fun c25 => ?_) (fun c25 => ?_)
          · have hG := f_in c25 hG
            refine lv_iconst (v := 0) hx hb dX7_countUnlike_32 (by decide) ?_
            refine lv_iadd hx hb dX7_countUnlike_33 ?_
            refine lv_topi (fun v34 e34 => ?_)
            have hG := f_lt hG e34
            refine lv_istore_n (lv' := [(1, .int v34), (0, .ref (E.2.1 0)), (2, .int x4_2)]) hx hb dX7_countUnlike_34 rfl hl (by decide) rfl (fun ls hl => ?_)
            refine lv_iinc (v := (x4_2 + (1 : Int32))) (lv' := [(2, .int (x4_2 + (1 : Int32))), (1, .int v34), (0, .ref (E.2.1 0))]) hx hb dX7_countUnlike_35 hl (k := 2) rfl (by rfl) (by decide) rfl (fun ls hl => ?_)
            refine lv_goto (tgt := 4) hx hb dX7_countUnlike_38 (by decide) ?_
            exact ih4 v34 (x4_2 + (1 : Int32)) σ21 _ _ _ hP hS (lv_sub hl [2, 1, 0] rfl) hG
          · have hG := f_ip c25 hG
            refine lv_iconst (v := 1) hx hb dX7_countUnlike_28 (by decide) ?_
            refine lv_goto (tgt := 33) hx hb dX7_countUnlike_29 (by decide) ?_
            refine lv_iadd hx hb dX7_countUnlike_33 ?_
            refine lv_topi (fun v34 e34 => ?_)
            have hG := f_lt hG e34
            refine lv_istore_n (lv' := [(1, .int v34), (0, .ref (E.2.1 0)), (2, .int x4_2)]) hx hb dX7_countUnlike_34 rfl hl (by decide) rfl (fun ls hl => ?_)
            refine lv_iinc (v := (x4_2 + (1 : Int32))) (lv' := [(2, .int (x4_2 + (1 : Int32))), (1, .int v34), (0, .ref (E.2.1 0))]) hx hb dX7_countUnlike_35 hl (k := 2) rfl (by rfl) (by decide) rfl (fun ls hl => ?_)
            refine lv_goto (tgt := 4) hx hb dX7_countUnlike_38 (by decide) ?_
            exact ih4 v34 (x4_2 + (1 : Int32)) σ21 _ _ _ hP hS (lv_sub hl [2, 1, 0] rfl) hG
  exact L4 N (0 : Int32) (0 : Int32) σ _ _ _ hP hS (lv_sub hl [2, 1, 0] rfl) hT4
theorem dX7_count_0 : decode cX7_count 0 = .ok (.iload_n 1, 1) := by decide +kernel
theorem dX7_count_1 : decode cX7_count 1 = .ok (.tableswitch 126 0 9 #[55, 60, 65, 70, 78, 86, 94, 102, 110, 118], 55) := by decide +kernel
theorem dX7_count_56 : decode cX7_count 56 = .ok (.aload_n 0, 1) := by decide +kernel
theorem dX7_count_57 : decode cX7_count 57 = .ok (.invokevirtual 227, 3) := by decide +kernel
theorem dX7_count_60 : decode cX7_count 60 = .ok (.ireturn, 1) := by decide +kernel
theorem dX7_count_61 : decode cX7_count 61 = .ok (.aload_n 0, 1) := by decide +kernel
theorem dX7_count_62 : decode cX7_count 62 = .ok (.invokevirtual 230, 3) := by decide +kernel
theorem dX7_count_65 : decode cX7_count 65 = .ok (.ireturn, 1) := by decide +kernel
theorem dX7_count_66 : decode cX7_count 66 = .ok (.aload_n 0, 1) := by decide +kernel
theorem dX7_count_67 : decode cX7_count 67 = .ok (.invokevirtual 233, 3) := by decide +kernel
theorem dX7_count_70 : decode cX7_count 70 = .ok (.ireturn, 1) := by decide +kernel
theorem dX7_count_71 : decode cX7_count 71 = .ok (.aload_n 0, 1) := by decide +kernel
theorem dX7_count_72 : decode cX7_count 72 = .ok (.getfield 30, 3) := by decide +kernel
theorem dX7_count_75 : decode cX7_count 75 = .ok (.getfield 187, 3) := by decide +kernel
theorem dX7_count_78 : decode cX7_count 78 = .ok (.ireturn, 1) := by decide +kernel
theorem dX7_count_79 : decode cX7_count 79 = .ok (.aload_n 0, 1) := by decide +kernel
theorem dX7_count_80 : decode cX7_count 80 = .ok (.getfield 10, 3) := by decide +kernel
theorem dX7_count_83 : decode cX7_count 83 = .ok (.getfield 61, 3) := by decide +kernel
theorem dX7_count_86 : decode cX7_count 86 = .ok (.ireturn, 1) := by decide +kernel
theorem dX7_count_87 : decode cX7_count 87 = .ok (.aload_n 0, 1) := by decide +kernel
theorem dX7_count_88 : decode cX7_count 88 = .ok (.getfield 37, 3) := by decide +kernel
theorem dX7_count_91 : decode cX7_count 91 = .ok (.getfield 218, 3) := by decide +kernel
theorem dX7_count_94 : decode cX7_count 94 = .ok (.ireturn, 1) := by decide +kernel
theorem dX7_count_95 : decode cX7_count 95 = .ok (.aload_n 0, 1) := by decide +kernel
theorem dX7_count_96 : decode cX7_count 96 = .ok (.getfield 37, 3) := by decide +kernel
theorem dX7_count_99 : decode cX7_count 99 = .ok (.getfield 196, 3) := by decide +kernel
theorem dX7_count_102 : decode cX7_count 102 = .ok (.ireturn, 1) := by decide +kernel
theorem dX7_count_103 : decode cX7_count 103 = .ok (.aload_n 0, 1) := by decide +kernel
theorem dX7_count_104 : decode cX7_count 104 = .ok (.getfield 37, 3) := by decide +kernel
theorem dX7_count_107 : decode cX7_count 107 = .ok (.invokevirtual 236, 3) := by decide +kernel
theorem dX7_count_110 : decode cX7_count 110 = .ok (.ireturn, 1) := by decide +kernel
theorem dX7_count_111 : decode cX7_count 111 = .ok (.aload_n 0, 1) := by decide +kernel
theorem dX7_count_112 : decode cX7_count 112 = .ok (.getfield 30, 3) := by decide +kernel
theorem dX7_count_115 : decode cX7_count 115 = .ok (.getfield 239, 3) := by decide +kernel
theorem dX7_count_118 : decode cX7_count 118 = .ok (.ireturn, 1) := by decide +kernel
theorem dX7_count_119 : decode cX7_count 119 = .ok (.aload_n 0, 1) := by decide +kernel
theorem dX7_count_120 : decode cX7_count 120 = .ok (.getfield 30, 3) := by decide +kernel
theorem dX7_count_123 : decode cX7_count 123 = .ok (.getfield 242, 3) := by decide +kernel
theorem dX7_count_126 : decode cX7_count 126 = .ok (.ireturn, 1) := by decide +kernel
theorem dX7_count_127 : decode cX7_count 127 = .ok (.bipush (-102), 2) := by decide +kernel
theorem dX7_count_129 : decode cX7_count 129 = .ok (.ireturn, 1) := by decide +kernel
set_option maxHeartbeats 4000000 in
set_option maxRecDepth 100000 in
theorem c_X7_count (l : Launch) (E : fEv) (N : Nat) (a1 : Int32) (σ : fS) (r : Int32) (τ : fS) (hG : g_X7_count N a1 σ = some (r, τ)) : fM l E yX7_count (.code yX7_count cX7_count 2 (some .int)) rm_X7_count [.ref (E.2.1 0), .int a1] σ τ (some (.int r)) := by
  refine f_openI (by decide) (Nat.le_of_ble_eq_true rfl) ?_
  intro p e s m below meth c args Q F hR hP ls hl
  have hx := F.1.1
  have hb := F.1.2.1
  have hown := F.1.2.2.2.1
  have hts := F.1.2.2.2.2
  have hS : va_S (f_A E) s.heap s.heap [] := va_S.rf
  skip
  have hl : lv_has ls 2 [(0, .ref (E.2.1 0)), (1, .int a1)] := hl
  unfold g_X7_count at hG
  refine lv_iload_n hx hb dX7_count_0 rfl (lv_at hl 1 rfl) ?_
  by_cases c1_0 : a1 = 0
  · have hG := f_ip c1_0 hG
    refine lv_tableIn (off := 55) (tgt := 56) hx hb dX7_count_1 (by rw [c1_0]; decide) (by rw [c1_0]; decide) (by rw [c1_0]; rfl) (by decide) ?_
    refine lv_aload_n hx hb dX7_count_56 rfl (lv_at hl 0 rfl) ?_
    obtain ⟨r57, σ57, hC57, hG⟩ := f_bd hG
    refine iv_X7_227 F hS hP (c_X7_countForms l E N σ _ _ hC57) ⟨Nat.le_of_ble_eq_true rfl, Nat.le_of_ble_eq_true rfl⟩ hl.1 (Nat.le_of_ble_eq_true rfl) dX7_count_57 ⟨Nat.zero_le _, Nat.zero_le _⟩ (fun H locs hP hS => ?_)
    exact x_ri hR hS hP hG dX7_count_60
  · have hG := f_in c1_0 hG
    by_cases c1_1 : a1 = 1
    · have hG := f_ip c1_1 hG
      refine lv_tableIn (off := 60) (tgt := 61) hx hb dX7_count_1 (by rw [c1_1]; decide) (by rw [c1_1]; decide) (by rw [c1_1]; rfl) (by decide) ?_
      refine lv_aload_n hx hb dX7_count_61 rfl (lv_at hl 0 rfl) ?_
      obtain ⟨r62, σ62, hC62, hG⟩ := f_bd hG
      refine iv_X7_230 F hS hP (c_X7_countTerms l E N σ _ _ hC62) ⟨Nat.le_of_ble_eq_true rfl, Nat.le_of_ble_eq_true rfl⟩ hl.1 (Nat.le_of_ble_eq_true rfl) dX7_count_62 ⟨Nat.zero_le _, Nat.zero_le _⟩ (fun H locs hP hS => ?_)
      exact x_ri hR hS hP hG dX7_count_65
    · have hG := f_in c1_1 hG
      by_cases c1_2 : a1 = 2
      · have hG := f_ip c1_2 hG
        refine lv_tableIn (off := 65) (tgt := 66) hx hb dX7_count_1 (by rw [c1_2]; decide) (by rw [c1_2]; decide) (by rw [c1_2]; rfl) (by decide) ?_
        refine lv_aload_n hx hb dX7_count_66 rfl (lv_at hl 0 rfl) ?_
        obtain ⟨r67, σ67, hC67, hG⟩ := f_bd hG
        refine iv_X7_233 F hS hP (c_X7_countUnlike l E N σ _ _ hC67) ⟨Nat.le_of_ble_eq_true rfl, Nat.le_of_ble_eq_true rfl⟩ hl.1 (Nat.le_of_ble_eq_true rfl) dX7_count_67 ⟨Nat.zero_le _, Nat.zero_le _⟩ (fun H locs hP hS => ?_)
        exact x_ri hR hS hP hG dX7_count_70
      · have hG := f_in c1_2 hG
        by_cases c1_3 : a1 = 3
        · have hG := f_ip c1_3 hG
          refine lv_tableIn (off := 70) (tgt := 71) hx hb dX7_count_1 (by rw [c1_3]; decide) (by rw [c1_3]; decide) (by rw [c1_3]; rfl) (by decide) ?_
          refine lv_aload_n hx hb dX7_count_71 rfl (lv_at hl 0 rfl) ?_
          refine gf_X7_30 F hP dX7_count_72 ?_
          refine gf_X7_187 F hP dX7_count_75 ?_
          exact x_ri hR hS hP hG dX7_count_78
        · have hG := f_in c1_3 hG
          by_cases c1_4 : a1 = 4
          · have hG := f_ip c1_4 hG
            refine lv_tableIn (off := 78) (tgt := 79) hx hb dX7_count_1 (by rw [c1_4]; decide) (by rw [c1_4]; decide) (by rw [c1_4]; rfl) (by decide) ?_
            refine lv_aload_n hx hb dX7_count_79 rfl (lv_at hl 0 rfl) ?_
            refine gf_X7_10 F hP dX7_count_80 ?_
            refine gf_X7_61 F hP dX7_count_83 ?_
            exact x_ri hR hS hP hG dX7_count_86
          · have hG := f_in c1_4 hG
            by_cases c1_5 : a1 = 5
            · have hG := f_ip c1_5 hG
              refine lv_tableIn (off := 86) (tgt := 87) hx hb dX7_count_1 (by rw [c1_5]; decide) (by rw [c1_5]; decide) (by rw [c1_5]; rfl) (by decide) ?_
              refine lv_aload_n hx hb dX7_count_87 rfl (lv_at hl 0 rfl) ?_
              refine gf_X7_37 F hP dX7_count_88 ?_
              refine gf_X7_218 F hP dX7_count_91 ?_
              exact x_ri hR hS hP hG dX7_count_94
            · have hG := f_in c1_5 hG
              by_cases c1_6 : a1 = 6
              · have hG := f_ip c1_6 hG
                refine lv_tableIn (off := 94) (tgt := 95) hx hb dX7_count_1 (by rw [c1_6]; decide) (by rw [c1_6]; decide) (by rw [c1_6]; rfl) (by decide) ?_
                refine lv_aload_n hx hb dX7_count_95 rfl (lv_at hl 0 rfl) ?_
                refine gf_X7_37 F hP dX7_count_96 ?_
                refine gf_X7_196 F hP dX7_count_99 ?_
                exact x_ri hR hS hP hG dX7_count_102
              · have hG := f_in c1_6 hG
                by_cases c1_7 : a1 = 7
                · have hG := f_ip c1_7 hG
                  refine lv_tableIn (off := 102) (tgt := 103) hx hb dX7_count_1 (by rw [c1_7]; decide) (by rw [c1_7]; decide) (by rw [c1_7]; rfl) (by decide) ?_
                  refine lv_aload_n hx hb dX7_count_103 rfl (lv_at hl 0 rfl) ?_
                  refine gf_X7_37 F hP dX7_count_104 ?_
                  obtain ⟨r107, σ107, hC107, hG⟩ := f_bd hG
                  refine iv_X7_236 F hS hP (c_X4_countGenera l E N σ _ _ hC107) ⟨Nat.le_of_ble_eq_true rfl, Nat.le_of_ble_eq_true rfl⟩ hl.1 (Nat.le_of_ble_eq_true rfl) dX7_count_107 ⟨Nat.zero_le _, Nat.zero_le _⟩ (fun H locs hP hS => ?_)
                  exact x_ri hR hS hP hG dX7_count_110
                · have hG := f_in c1_7 hG
                  by_cases c1_8 : a1 = 8
                  · have hG := f_ip c1_8 hG
                    refine lv_tableIn (off := 110) (tgt := 111) hx hb dX7_count_1 (by rw [c1_8]; decide) (by rw [c1_8]; decide) (by rw [c1_8]; rfl) (by decide) ?_
                    refine lv_aload_n hx hb dX7_count_111 rfl (lv_at hl 0 rfl) ?_
                    refine gf_X7_30 F hP dX7_count_112 ?_
                    refine gf_X7_239 F hP dX7_count_115 ?_
                    exact x_ri hR hS hP hG dX7_count_118
                  · have hG := f_in c1_8 hG
                    by_cases c1_9 : a1 = 9
                    · have hG := f_ip c1_9 hG
                      refine lv_tableIn (off := 118) (tgt := 119) hx hb dX7_count_1 (by rw [c1_9]; decide) (by rw [c1_9]; decide) (by rw [c1_9]; rfl) (by decide) ?_
                      refine lv_aload_n hx hb dX7_count_119 rfl (lv_at hl 0 rfl) ?_
                      refine gf_X7_30 F hP dX7_count_120 ?_
                      refine gf_X7_242 F hP dX7_count_123 ?_
                      exact x_ri hR hS hP hG dX7_count_126
                    · have hG := f_in c1_9 hG
                      have n1_0 := lv_neT c1_0 (show (0 : Int32).toInt = 0 from rfl)
                      have n1_1 := lv_neT c1_1 (show (1 : Int32).toInt = 1 from rfl)
                      have n1_2 := lv_neT c1_2 (show (2 : Int32).toInt = 2 from rfl)
                      have n1_3 := lv_neT c1_3 (show (3 : Int32).toInt = 3 from rfl)
                      have n1_4 := lv_neT c1_4 (show (4 : Int32).toInt = 4 from rfl)
                      have n1_5 := lv_neT c1_5 (show (5 : Int32).toInt = 5 from rfl)
                      have n1_6 := lv_neT c1_6 (show (6 : Int32).toInt = 6 from rfl)
                      have n1_7 := lv_neT c1_7 (show (7 : Int32).toInt = 7 from rfl)
                      have n1_8 := lv_neT c1_8 (show (8 : Int32).toInt = 8 from rfl)
                      have n1_9 := lv_neT c1_9 (show (9 : Int32).toInt = 9 from rfl)
                      refine lv_tableOut (tgt := 127) hx hb dX7_count_1 (by omega) (by decide) ?_
                      refine lv_bipush (v := -102) hx hb dX7_count_127 (by decide) ?_
                      exact x_ri hR hS hP hG dX7_count_129
theorem dX7_mix_0 : decode cX7_mix 0 = .ok (.ldc2_w 269, 3) := by decide +kernel
theorem dX7_mix_3 : decode cX7_mix 3 = .ok (.lload_n 0, 1) := by decide +kernel
theorem dX7_mix_4 : decode cX7_mix 4 = .ok (.lmul, 1) := by decide +kernel
theorem dX7_mix_5 : decode cX7_mix 5 = .ok (.iload_n 2, 1) := by decide +kernel
theorem dX7_mix_6 : decode cX7_mix 6 = .ok (.i2l, 1) := by decide +kernel
theorem dX7_mix_7 : decode cX7_mix 7 = .ok (.ladd, 1) := by decide +kernel
theorem dX7_mix_8 : decode cX7_mix 8 = .ok (.lreturn, 1) := by decide +kernel
set_option maxHeartbeats 4000000 in
set_option maxRecDepth 100000 in
theorem c_X7_mix (l : Launch) (E : fEv) (N : Nat) (a0 : Int64) (a2 : Int32) (σ : fS) (r : Int64) (τ : fS) (hG : g_X7_mix N a0 a2 σ = some (r, τ)) : fM l E yX7_mix (.code yX7_mix cX7_mix 3 (some .long)) rm_X7_mix [.long a0, .int a2] σ τ (some (.long r)) := by
  refine f_openL (by decide) (Nat.le_of_ble_eq_true rfl) ?_
  intro p e s m below meth c args Q F hR hP ls hl
  have hx := F.1.1
  have hb := F.1.2.1
  have hown := F.1.2.2.2.1
  have hts := F.1.2.2.2.2
  have hS : va_S (f_A E) s.heap s.heap [] := va_S.rf
  skip
  have hl : lv_has ls 3 [(0, .long a0), (2, .int a2)] := hl
  unfold g_X7_mix at hG
  refine lv_ldc2 (v := 31) hx hb hown (hts _ wk_X7_269) dX7_mix_0 ?_
  refine lv_lload_n hx hb dX7_mix_3 rfl (lv_at hl 0 rfl) ?_
  refine lv_lmul hx hb dX7_mix_4 ?_
  refine lv_iload_n hx hb dX7_mix_5 rfl (lv_at hl 1 rfl) ?_
  refine lv_i2l hx hb dX7_mix_6 rfl ?_
  refine lv_ladd hx hb dX7_mix_7 ?_
  exact x_rl hR hS hP hG dX7_mix_8
theorem dX7_digest_0 : decode cX7_digest 0 = .ok (.ldc2_w 245, 3) := by decide +kernel
theorem dX7_digest_3 : decode cX7_digest 3 = .ok (.lstore_n 1, 1) := by decide +kernel
theorem dX7_digest_4 : decode cX7_digest 4 = .ok (.iconst 0, 1) := by decide +kernel
theorem dX7_digest_5 : decode cX7_digest 5 = .ok (.istore_n 3, 1) := by decide +kernel
theorem dX7_digest_6 : decode cX7_digest 6 = .ok (.iload_n 3, 1) := by decide +kernel
theorem dX7_digest_7 : decode cX7_digest 7 = .ok (.bipush 8, 2) := by decide +kernel
theorem dX7_digest_9 : decode cX7_digest 9 = .ok (.if_icmp .ge 89, 3) := by decide +kernel
theorem dX7_digest_12 : decode cX7_digest 12 = .ok (.aload_n 0, 1) := by decide +kernel
theorem dX7_digest_13 : decode cX7_digest 13 = .ok (.iload_n 3, 1) := by decide +kernel
theorem dX7_digest_14 : decode cX7_digest 14 = .ok (.invokevirtual 115, 3) := by decide +kernel
theorem dX7_digest_17 : decode cX7_digest 17 = .ok (.ifCond .ne 12, 3) := by decide +kernel
theorem dX7_digest_20 : decode cX7_digest 20 = .ok (.lload_n 1, 1) := by decide +kernel
theorem dX7_digest_21 : decode cX7_digest 21 = .ok (.iconst 0, 1) := by decide +kernel
theorem dX7_digest_22 : decode cX7_digest 22 = .ok (.invokestatic 247, 3) := by decide +kernel
theorem dX7_digest_25 : decode cX7_digest 25 = .ok (.lstore_n 1, 1) := by decide +kernel
theorem dX7_digest_26 : decode cX7_digest 26 = .ok (.goto 66, 3) := by decide +kernel
theorem dX7_digest_29 : decode cX7_digest 29 = .ok (.iconst 0, 1) := by decide +kernel
theorem dX7_digest_30 : decode cX7_digest 30 = .ok (.istore 4, 2) := by decide +kernel
theorem dX7_digest_32 : decode cX7_digest 32 = .ok (.iload 4, 2) := by decide +kernel
theorem dX7_digest_34 : decode cX7_digest 34 = .ok (.bipush 8, 2) := by decide +kernel
theorem dX7_digest_36 : decode cX7_digest 36 = .ok (.if_icmp .gt 21, 3) := by decide +kernel
theorem dX7_digest_39 : decode cX7_digest 39 = .ok (.lload_n 1, 1) := by decide +kernel
theorem dX7_digest_40 : decode cX7_digest 40 = .ok (.aload_n 0, 1) := by decide +kernel
theorem dX7_digest_41 : decode cX7_digest 41 = .ok (.iload_n 3, 1) := by decide +kernel
theorem dX7_digest_42 : decode cX7_digest 42 = .ok (.iload 4, 2) := by decide +kernel
theorem dX7_digest_44 : decode cX7_digest 44 = .ok (.invokevirtual 251, 3) := by decide +kernel
theorem dX7_digest_47 : decode cX7_digest 47 = .ok (.invokestatic 247, 3) := by decide +kernel
theorem dX7_digest_50 : decode cX7_digest 50 = .ok (.lstore_n 1, 1) := by decide +kernel
theorem dX7_digest_51 : decode cX7_digest 51 = .ok (.iinc 4 1, 3) := by decide +kernel
theorem dX7_digest_54 : decode cX7_digest 54 = .ok (.goto (-22), 3) := by decide +kernel
theorem dX7_digest_57 : decode cX7_digest 57 = .ok (.iconst 0, 1) := by decide +kernel
theorem dX7_digest_58 : decode cX7_digest 58 = .ok (.istore 4, 2) := by decide +kernel
theorem dX7_digest_60 : decode cX7_digest 60 = .ok (.iload 4, 2) := by decide +kernel
theorem dX7_digest_62 : decode cX7_digest 62 = .ok (.aload_n 0, 1) := by decide +kernel
theorem dX7_digest_63 : decode cX7_digest 63 = .ok (.getfield 18, 3) := by decide +kernel
theorem dX7_digest_66 : decode cX7_digest 66 = .ok (.iload_n 3, 1) := by decide +kernel
theorem dX7_digest_67 : decode cX7_digest 67 = .ok (.aaload, 1) := by decide +kernel
theorem dX7_digest_68 : decode cX7_digest 68 = .ok (.getfield 80, 3) := by decide +kernel
theorem dX7_digest_71 : decode cX7_digest 71 = .ok (.if_icmp .ge 21, 3) := by decide +kernel
theorem dX7_digest_74 : decode cX7_digest 74 = .ok (.lload_n 1, 1) := by decide +kernel
theorem dX7_digest_75 : decode cX7_digest 75 = .ok (.aload_n 0, 1) := by decide +kernel
theorem dX7_digest_76 : decode cX7_digest 76 = .ok (.iload_n 3, 1) := by decide +kernel
theorem dX7_digest_77 : decode cX7_digest 77 = .ok (.iload 4, 2) := by decide +kernel
theorem dX7_digest_79 : decode cX7_digest 79 = .ok (.invokevirtual 254, 3) := by decide +kernel
theorem dX7_digest_82 : decode cX7_digest 82 = .ok (.invokestatic 247, 3) := by decide +kernel
theorem dX7_digest_85 : decode cX7_digest 85 = .ok (.lstore_n 1, 1) := by decide +kernel
theorem dX7_digest_86 : decode cX7_digest 86 = .ok (.iinc 4 1, 3) := by decide +kernel
theorem dX7_digest_89 : decode cX7_digest 89 = .ok (.goto (-29), 3) := by decide +kernel
theorem dX7_digest_92 : decode cX7_digest 92 = .ok (.iinc 3 1, 3) := by decide +kernel
theorem dX7_digest_95 : decode cX7_digest 95 = .ok (.goto (-89), 3) := by decide +kernel
theorem dX7_digest_98 : decode cX7_digest 98 = .ok (.iconst 0, 1) := by decide +kernel
theorem dX7_digest_99 : decode cX7_digest 99 = .ok (.istore_n 3, 1) := by decide +kernel
theorem dX7_digest_100 : decode cX7_digest 100 = .ok (.iload_n 3, 1) := by decide +kernel
theorem dX7_digest_101 : decode cX7_digest 101 = .ok (.aload_n 0, 1) := by decide +kernel
theorem dX7_digest_102 : decode cX7_digest 102 = .ok (.getfield 37, 3) := by decide +kernel
theorem dX7_digest_105 : decode cX7_digest 105 = .ok (.getfield 196, 3) := by decide +kernel
theorem dX7_digest_108 : decode cX7_digest 108 = .ok (.if_icmp .ge 36, 3) := by decide +kernel
theorem dX7_digest_111 : decode cX7_digest 111 = .ok (.iconst 0, 1) := by decide +kernel
theorem dX7_digest_112 : decode cX7_digest 112 = .ok (.istore 4, 2) := by decide +kernel
theorem dX7_digest_114 : decode cX7_digest 114 = .ok (.iload 4, 2) := by decide +kernel
theorem dX7_digest_116 : decode cX7_digest 116 = .ok (.iconst 4, 1) := by decide +kernel
theorem dX7_digest_117 : decode cX7_digest 117 = .ok (.if_icmp .gt 21, 3) := by decide +kernel
theorem dX7_digest_120 : decode cX7_digest 120 = .ok (.lload_n 1, 1) := by decide +kernel
theorem dX7_digest_121 : decode cX7_digest 121 = .ok (.aload_n 0, 1) := by decide +kernel
theorem dX7_digest_122 : decode cX7_digest 122 = .ok (.iload_n 3, 1) := by decide +kernel
theorem dX7_digest_123 : decode cX7_digest 123 = .ok (.iload 4, 2) := by decide +kernel
theorem dX7_digest_125 : decode cX7_digest 125 = .ok (.invokevirtual 257, 3) := by decide +kernel
theorem dX7_digest_128 : decode cX7_digest 128 = .ok (.invokestatic 247, 3) := by decide +kernel
theorem dX7_digest_131 : decode cX7_digest 131 = .ok (.lstore_n 1, 1) := by decide +kernel
theorem dX7_digest_132 : decode cX7_digest 132 = .ok (.iinc 4 1, 3) := by decide +kernel
theorem dX7_digest_135 : decode cX7_digest 135 = .ok (.goto (-21), 3) := by decide +kernel
theorem dX7_digest_138 : decode cX7_digest 138 = .ok (.iinc 3 1, 3) := by decide +kernel
theorem dX7_digest_141 : decode cX7_digest 141 = .ok (.goto (-41), 3) := by decide +kernel
theorem dX7_digest_144 : decode cX7_digest 144 = .ok (.iconst 0, 1) := by decide +kernel
theorem dX7_digest_145 : decode cX7_digest 145 = .ok (.istore_n 3, 1) := by decide +kernel
theorem dX7_digest_146 : decode cX7_digest 146 = .ok (.iload_n 3, 1) := by decide +kernel
theorem dX7_digest_147 : decode cX7_digest 147 = .ok (.aload_n 0, 1) := by decide +kernel
theorem dX7_digest_148 : decode cX7_digest 148 = .ok (.getfield 10, 3) := by decide +kernel
theorem dX7_digest_151 : decode cX7_digest 151 = .ok (.getfield 61, 3) := by decide +kernel
theorem dX7_digest_154 : decode cX7_digest 154 = .ok (.if_icmp .ge 22, 3) := by decide +kernel
theorem dX7_digest_157 : decode cX7_digest 157 = .ok (.lload_n 1, 1) := by decide +kernel
theorem dX7_digest_158 : decode cX7_digest 158 = .ok (.aload_n 0, 1) := by decide +kernel
theorem dX7_digest_159 : decode cX7_digest 159 = .ok (.getfield 10, 3) := by decide +kernel
theorem dX7_digest_162 : decode cX7_digest 162 = .ok (.iload_n 3, 1) := by decide +kernel
theorem dX7_digest_163 : decode cX7_digest 163 = .ok (.invokevirtual 260, 3) := by decide +kernel
theorem dX7_digest_166 : decode cX7_digest 166 = .ok (.invokestatic 247, 3) := by decide +kernel
theorem dX7_digest_169 : decode cX7_digest 169 = .ok (.lstore_n 1, 1) := by decide +kernel
theorem dX7_digest_170 : decode cX7_digest 170 = .ok (.iinc 3 1, 3) := by decide +kernel
theorem dX7_digest_173 : decode cX7_digest 173 = .ok (.goto (-27), 3) := by decide +kernel
theorem dX7_digest_176 : decode cX7_digest 176 = .ok (.iconst 0, 1) := by decide +kernel
theorem dX7_digest_177 : decode cX7_digest 177 = .ok (.istore_n 3, 1) := by decide +kernel
theorem dX7_digest_178 : decode cX7_digest 178 = .ok (.iload_n 3, 1) := by decide +kernel
theorem dX7_digest_179 : decode cX7_digest 179 = .ok (.bipush 9, 2) := by decide +kernel
theorem dX7_digest_181 : decode cX7_digest 181 = .ok (.if_icmp .gt 19, 3) := by decide +kernel
theorem dX7_digest_184 : decode cX7_digest 184 = .ok (.lload_n 1, 1) := by decide +kernel
theorem dX7_digest_185 : decode cX7_digest 185 = .ok (.aload_n 0, 1) := by decide +kernel
theorem dX7_digest_186 : decode cX7_digest 186 = .ok (.iload_n 3, 1) := by decide +kernel
theorem dX7_digest_187 : decode cX7_digest 187 = .ok (.invokevirtual 263, 3) := by decide +kernel
theorem dX7_digest_190 : decode cX7_digest 190 = .ok (.invokestatic 247, 3) := by decide +kernel
theorem dX7_digest_193 : decode cX7_digest 193 = .ok (.lstore_n 1, 1) := by decide +kernel
theorem dX7_digest_194 : decode cX7_digest 194 = .ok (.iinc 3 1, 3) := by decide +kernel
theorem dX7_digest_197 : decode cX7_digest 197 = .ok (.goto (-19), 3) := by decide +kernel
theorem dX7_digest_200 : decode cX7_digest 200 = .ok (.lload_n 1, 1) := by decide +kernel
theorem dX7_digest_201 : decode cX7_digest 201 = .ok (.lreturn, 1) := by decide +kernel
set_option maxHeartbeats 4000000 in
set_option maxRecDepth 100000 in
theorem c_X7_digest (l : Launch) (E : fEv) (N : Nat)  (σ : fS) (r : Int64) (τ : fS) (hG : g_X7_digest N  σ = some (r, τ)) : fM l E yX7_digest (.code yX7_digest cX7_digest 5 (some .long)) rm_X7_digest [.ref (E.2.1 0)] σ τ (some (.long r)) := by
  refine f_openL (by decide) (Nat.le_of_ble_eq_true rfl) ?_
  intro p e s m below meth c args Q F hR hP ls hl
  have hx := F.1.1
  have hb := F.1.2.1
  have hown := F.1.2.2.2.1
  have hts := F.1.2.2.2.2
  have hS : va_S (f_A E) s.heap s.heap [] := va_S.rf
  skip
  have hl : lv_has ls 5 [(0, .ref (E.2.1 0))] := hl
  unfold g_X7_digest at hG
  refine lv_ldc2 (v := 1487) hx hb hown (hts _ wk_X7_245) dX7_digest_0 ?_
  refine lv_lstore_n (lv' := [(1, .long (1487 : Int64)), (0, .ref (E.2.1 0))]) hx hb dX7_digest_3 rfl hl (by decide) rfl (fun ls hl => ?_)
  refine lv_iconst (v := 0) hx hb dX7_digest_4 (by decide) ?_
  refine lv_istore_n (lv' := [(3, .int (0 : Int32)), (1, .long (1487 : Int64)), (0, .ref (E.2.1 0))]) hx hb dX7_digest_5 rfl hl (by decide) rfl (fun ls hl => ?_)
  obtain ⟨o6, σl6, hT6, hG⟩ := f_bd hG
  have T6 : ∀ (H : Heap) (locs : List Loc) (ls : Array Slot), f_h E σl6 H → va_S (f_A E) s.heap H locs → lv_has ls 5 [(0, .ref (E.2.1 0)), (1, .long o6)] → W p l e rm_X7_digest s m args below meth c H locs 0 0 Q (F0 m 98 ls []) := by
    intro H locs ls hP hS hl
    refine lv_iconst (v := 0) hx hb dX7_digest_98 (by decide) ?_
    refine lv_istore_n (lv' := [(3, .int (0 : Int32)), (0, .ref (E.2.1 0)), (1, .long o6)]) hx hb dX7_digest_99 rfl hl (by decide) rfl (fun ls hl => ?_)
    obtain ⟨o100, σl100, hT100, hG⟩ := f_bd hG
    have T100 : ∀ (H : Heap) (locs : List Loc) (ls : Array Slot), f_h E σl100 H → va_S (f_A E) s.heap H locs → lv_has ls 5 [(0, .ref (E.2.1 0)), (1, .long o100)] → W p l e rm_X7_digest s m args below meth c H locs 0 0 Q (F0 m 144 ls []) := by
      intro H locs ls hP hS hl
      refine lv_iconst (v := 0) hx hb dX7_digest_144 (by decide) ?_
      refine lv_istore_n (lv' := [(3, .int (0 : Int32)), (0, .ref (E.2.1 0)), (1, .long o100)]) hx hb dX7_digest_145 rfl hl (by decide) rfl (fun ls hl => ?_)
      obtain ⟨o146, σl146, hT146, hG⟩ := f_bd hG
      have T146 : ∀ (H : Heap) (locs : List Loc) (ls : Array Slot), f_h E σl146 H → va_S (f_A E) s.heap H locs → lv_has ls 5 [(0, .ref (E.2.1 0)), (1, .long o146)] → W p l e rm_X7_digest s m args below meth c H locs 0 0 Q (F0 m 176 ls []) := by
        intro H locs ls hP hS hl
        refine lv_iconst (v := 0) hx hb dX7_digest_176 (by decide) ?_
        refine lv_istore_n (lv' := [(3, .int (0 : Int32)), (0, .ref (E.2.1 0)), (1, .long o146)]) hx hb dX7_digest_177 rfl hl (by decide) rfl (fun ls hl => ?_)
        obtain ⟨o178, σl178, hT178, hG⟩ := f_bd hG
        have T178 : ∀ (H : Heap) (locs : List Loc) (ls : Array Slot), f_h E σl178 H → va_S (f_A E) s.heap H locs → lv_has ls 5 [(1, .long o178)] → W p l e rm_X7_digest s m args below meth c H locs 0 0 Q (F0 m 200 ls []) := by
          intro H locs ls hP hS hl
          refine lv_lload_n hx hb dX7_digest_200 rfl (lv_at hl 0 rfl) ?_
          exact x_rl hR hS hP hG dX7_digest_201
        have L178 : ∀ (n178 : Nat) (x178_1 : Int64) (x178_3 : Int32) (σh178 : fS) (H : Heap) (locs : List Loc) (ls : Array Slot), f_h E σh178 H → va_S (f_A E) s.heap H locs → lv_has ls 5 [(0, .ref (E.2.1 0)), (1, .long x178_1), (3, .int x178_3)] → lp_X7_digest_178 N n178 x178_1 x178_3 σh178 = some (o178, σl178) → W p l e rm_X7_digest s m args below meth c H locs 0 0 Q (F0 m 178 ls []) := by
          intro n178
          induction n178 with
          | zero =>
            intro x178_1 x178_3 σh178 H locs ls hP hS hl hG
            rw [lp_X7_digest_178] at hG
            cases hG
          | succ n178 ih178 =>
            intro x178_1 x178_3 σh178 H locs ls hP hS hl hG
            rw [lp_X7_digest_178] at hG
            refine lv_iload_n hx hb dX7_digest_178 rfl (lv_at hl 2 rfl) ?_
            refine lv_bipush (v := 9) hx hb dX7_digest_179 (by decide) ?_
            refine lv_icmp_gt (tgt := 200) hx hb dX7_digest_181 (by decide) (fun c181 => ?_) (fun c181 => ?_)
            · have hG := f_ip c181 hG
              cases hG
              exact T178 _ _ _ hP hS (lv_sub hl [1] rfl)
            · have hG := f_in c181 hG
              refine lv_lload_n hx hb dX7_digest_184 rfl (lv_at hl 1 rfl) ?_
              refine lv_aload_n hx hb dX7_digest_185 rfl (lv_at hl 0 rfl) ?_
              refine lv_iload_n hx hb dX7_digest_186 rfl (lv_at hl 2 rfl) ?_
              obtain ⟨r187, σ187, hC187, hG⟩ := f_bd hG
              refine iv_X7_263 F hS hP (c_X7_count l E N x178_3 σh178 _ _ hC187) ⟨Nat.le_of_ble_eq_true rfl, Nat.le_of_ble_eq_true rfl⟩ hl.1 (Nat.le_of_ble_eq_true rfl) dX7_digest_187 ⟨Nat.zero_le _, Nat.zero_le _⟩ (fun H locs hP hS => ?_)
              obtain ⟨r190, σ190, hC190, hG⟩ := f_bd hG
              refine iv_X7_247 F hS hP (c_X7_mix l E N x178_1 r187 σ187 _ _ hC190) ⟨Nat.le_of_ble_eq_true rfl, Nat.le_of_ble_eq_true rfl⟩ hl.1 (Nat.le_of_ble_eq_true rfl) dX7_digest_190 ⟨Nat.zero_le _, Nat.zero_le _⟩ (fun H locs hP hS => ?_)
              refine lv_lstore_n (lv' := [(1, .long r190), (0, .ref (E.2.1 0)), (3, .int x178_3)]) hx hb dX7_digest_193 rfl hl (by decide) rfl (fun ls hl => ?_)
              refine lv_iinc (v := (x178_3 + (1 : Int32))) (lv' := [(3, .int (x178_3 + (1 : Int32))), (1, .long r190), (0, .ref (E.2.1 0))]) hx hb dX7_digest_194 hl (k := 2) rfl (by rfl) (by decide) rfl (fun ls hl => ?_)
              refine lv_goto (tgt := 178) hx hb dX7_digest_197 (by decide) ?_
              exact ih178 r190 (x178_3 + (1 : Int32)) σ190 _ _ _ hP hS (lv_sub hl [2, 1, 0] rfl) hG
        exact L178 N o146 (0 : Int32) σl146 _ _ _ hP hS (lv_sub hl [1, 2, 0] rfl) hT178
      have L146 : ∀ (n146 : Nat) (x146_1 : Int64) (x146_3 : Int32) (σh146 : fS) (H : Heap) (locs : List Loc) (ls : Array Slot), f_h E σh146 H → va_S (f_A E) s.heap H locs → lv_has ls 5 [(0, .ref (E.2.1 0)), (1, .long x146_1), (3, .int x146_3)] → lp_X7_digest_146 N n146 x146_1 x146_3 σh146 = some (o146, σl146) → W p l e rm_X7_digest s m args below meth c H locs 0 0 Q (F0 m 146 ls []) := by
        intro n146
        induction n146 with
        | zero =>
          intro x146_1 x146_3 σh146 H locs ls hP hS hl hG
          rw [lp_X7_digest_146] at hG
          cases hG
        | succ n146 ih146 =>
          intro x146_1 x146_3 σh146 H locs ls hP hS hl hG
          rw [lp_X7_digest_146] at hG
          refine lv_iload_n hx hb dX7_digest_146 rfl (lv_at hl 2 rfl) ?_
          refine lv_aload_n hx hb dX7_digest_147 rfl (lv_at hl 0 rfl) ?_
          refine gf_X7_10 F hP dX7_digest_148 ?_
          refine gf_X7_61 F hP dX7_digest_151 ?_
          refine lv_icmp_ge (tgt := 176) hx hb dX7_digest_154 (by decide) (fun c154 => ?_) (fun c154 => ?_)
          · have hG := f_ip c154 hG
            cases hG
            exact T146 _ _ _ hP hS (lv_sub hl [0, 1] rfl)
          · have hG := f_in c154 hG
            refine lv_lload_n hx hb dX7_digest_157 rfl (lv_at hl 1 rfl) ?_
            refine lv_aload_n hx hb dX7_digest_158 rfl (lv_at hl 0 rfl) ?_
            refine gf_X7_10 F hP dX7_digest_159 ?_
            refine lv_iload_n hx hb dX7_digest_162 rfl (lv_at hl 2 rfl) ?_
            obtain ⟨r163, σ163, hC163, hG⟩ := f_bd hG
            refine iv_X7_260 F hS hP (c_X3_codeAt l E N x146_3 σh146 _ _ hC163) ⟨Nat.le_of_ble_eq_true rfl, Nat.le_of_ble_eq_true rfl⟩ hl.1 (Nat.le_of_ble_eq_true rfl) dX7_digest_163 ⟨Nat.zero_le _, Nat.zero_le _⟩ (fun H locs hP hS => ?_)
            obtain ⟨r166, σ166, hC166, hG⟩ := f_bd hG
            refine iv_X7_247 F hS hP (c_X7_mix l E N x146_1 r163 σ163 _ _ hC166) ⟨Nat.le_of_ble_eq_true rfl, Nat.le_of_ble_eq_true rfl⟩ hl.1 (Nat.le_of_ble_eq_true rfl) dX7_digest_166 ⟨Nat.zero_le _, Nat.zero_le _⟩ (fun H locs hP hS => ?_)
            refine lv_lstore_n (lv' := [(1, .long r166), (0, .ref (E.2.1 0)), (3, .int x146_3)]) hx hb dX7_digest_169 rfl hl (by decide) rfl (fun ls hl => ?_)
            refine lv_iinc (v := (x146_3 + (1 : Int32))) (lv' := [(3, .int (x146_3 + (1 : Int32))), (1, .long r166), (0, .ref (E.2.1 0))]) hx hb dX7_digest_170 hl (k := 2) rfl (by rfl) (by decide) rfl (fun ls hl => ?_)
            refine lv_goto (tgt := 146) hx hb dX7_digest_173 (by decide) ?_
            exact ih146 r166 (x146_3 + (1 : Int32)) σ166 _ _ _ hP hS (lv_sub hl [2, 1, 0] rfl) hG
      exact L146 N o100 (0 : Int32) σl100 _ _ _ hP hS (lv_sub hl [1, 2, 0] rfl) hT146
    have L100 : ∀ (n100 : Nat) (x100_1 : Int64) (x100_3 : Int32) (σh100 : fS) (H : Heap) (locs : List Loc) (ls : Array Slot), f_h E σh100 H → va_S (f_A E) s.heap H locs → lv_has ls 5 [(0, .ref (E.2.1 0)), (1, .long x100_1), (3, .int x100_3)] → lp_X7_digest_100 N n100 x100_1 x100_3 σh100 = some (o100, σl100) → W p l e rm_X7_digest s m args below meth c H locs 0 0 Q (F0 m 100 ls []) := by
      intro n100
      induction n100 with
      | zero =>
        intro x100_1 x100_3 σh100 H locs ls hP hS hl hG
        rw [lp_X7_digest_100] at hG
        cases hG
      | succ n100 ih100 =>
        intro x100_1 x100_3 σh100 H locs ls hP hS hl hG
        rw [lp_X7_digest_100] at hG
        refine lv_iload_n hx hb dX7_digest_100 rfl (lv_at hl 2 rfl) ?_
        refine lv_aload_n hx hb dX7_digest_101 rfl (lv_at hl 0 rfl) ?_
        refine gf_X7_37 F hP dX7_digest_102 ?_
        refine gf_X7_196 F hP dX7_digest_105 ?_
        refine lv_icmp_ge (tgt := 144) hx hb dX7_digest_108 (by decide) (fun c108 => ?_) (fun c108 => ?_)
        · have hG := f_ip c108 hG
          cases hG
          exact T100 _ _ _ hP hS (lv_sub hl [0, 1] rfl)
        · have hG := f_in c108 hG
          refine lv_iconst (v := 0) hx hb dX7_digest_111 (by decide) ?_
          refine lv_istore (lv' := [(4, .int (0 : Int32)), (0, .ref (E.2.1 0)), (1, .long x100_1), (3, .int x100_3)]) hx hb dX7_digest_112 hl (by decide) rfl (fun ls hl => ?_)
          obtain ⟨o114, σl114, hT114, hG⟩ := f_bd hG
          have T114 : ∀ (H : Heap) (locs : List Loc) (ls : Array Slot), f_h E σl114 H → va_S (f_A E) s.heap H locs → lv_has ls 5 [(0, .ref (E.2.1 0)), (1, .long o114), (3, .int x100_3)] → W p l e rm_X7_digest s m args below meth c H locs 0 0 Q (F0 m 138 ls []) := by
            intro H locs ls hP hS hl
            refine lv_iinc (v := (x100_3 + (1 : Int32))) (lv' := [(3, .int (x100_3 + (1 : Int32))), (0, .ref (E.2.1 0)), (1, .long o114)]) hx hb dX7_digest_138 hl (k := 2) rfl (by rfl) (by decide) rfl (fun ls hl => ?_)
            refine lv_goto (tgt := 100) hx hb dX7_digest_141 (by decide) ?_
            exact ih100 o114 (x100_3 + (1 : Int32)) σl114 _ _ _ hP hS (lv_sub hl [1, 2, 0] rfl) hG
          have L114 : ∀ (n114 : Nat) (x114_1 : Int64) (x114_4 : Int32) (σh114 : fS) (H : Heap) (locs : List Loc) (ls : Array Slot), f_h E σh114 H → va_S (f_A E) s.heap H locs → lv_has ls 5 [(0, .ref (E.2.1 0)), (1, .long x114_1), (3, .int x100_3), (4, .int x114_4)] → lp_X7_digest_114 N x100_3 n114 x114_1 x114_4 σh114 = some (o114, σl114) → W p l e rm_X7_digest s m args below meth c H locs 0 0 Q (F0 m 114 ls []) := by
            intro n114
            induction n114 with
            | zero =>
              intro x114_1 x114_4 σh114 H locs ls hP hS hl hG
              rw [lp_X7_digest_114] at hG
              cases hG
            | succ n114 ih114 =>
              intro x114_1 x114_4 σh114 H locs ls hP hS hl hG
              rw [lp_X7_digest_114] at hG
              refine lv_iload hx hb dX7_digest_114 (lv_at hl 3 rfl) ?_
              refine lv_iconst (v := 4) hx hb dX7_digest_116 (by decide) ?_
              refine lv_icmp_gt (tgt := 138) hx hb dX7_digest_117 (by decide) (fun c117 => ?_) (fun c117 => ?_)
              · have hG := f_ip c117 hG
                cases hG
                exact T114 _ _ _ hP hS (lv_sub hl [0, 1, 2] rfl)
              · have hG := f_in c117 hG
                refine lv_lload_n hx hb dX7_digest_120 rfl (lv_at hl 1 rfl) ?_
                refine lv_aload_n hx hb dX7_digest_121 rfl (lv_at hl 0 rfl) ?_
                refine lv_iload_n hx hb dX7_digest_122 rfl (lv_at hl 2 rfl) ?_
                refine lv_iload hx hb dX7_digest_123 (lv_at hl 3 rfl) ?_
                obtain ⟨r125, σ125, hC125, hG⟩ := f_bd hG
                refine iv_X7_257 F hS hP (c_X7_pair l E N x100_3 x114_4 σh114 _ _ hC125) ⟨Nat.le_of_ble_eq_true rfl, Nat.le_of_ble_eq_true rfl⟩ hl.1 (Nat.le_of_ble_eq_true rfl) dX7_digest_125 ⟨Nat.zero_le _, Nat.zero_le _⟩ (fun H locs hP hS => ?_)
                obtain ⟨r128, σ128, hC128, hG⟩ := f_bd hG
                refine iv_X7_247 F hS hP (c_X7_mix l E N x114_1 r125 σ125 _ _ hC128) ⟨Nat.le_of_ble_eq_true rfl, Nat.le_of_ble_eq_true rfl⟩ hl.1 (Nat.le_of_ble_eq_true rfl) dX7_digest_128 ⟨Nat.zero_le _, Nat.zero_le _⟩ (fun H locs hP hS => ?_)
                refine lv_lstore_n (lv' := [(1, .long r128), (0, .ref (E.2.1 0)), (3, .int x100_3), (4, .int x114_4)]) hx hb dX7_digest_131 rfl hl (by decide) rfl (fun ls hl => ?_)
                refine lv_iinc (v := (x114_4 + (1 : Int32))) (lv' := [(4, .int (x114_4 + (1 : Int32))), (1, .long r128), (0, .ref (E.2.1 0)), (3, .int x100_3)]) hx hb dX7_digest_132 hl (k := 3) rfl (by rfl) (by decide) rfl (fun ls hl => ?_)
                refine lv_goto (tgt := 114) hx hb dX7_digest_135 (by decide) ?_
                exact ih114 r128 (x114_4 + (1 : Int32)) σ128 _ _ _ hP hS (lv_sub hl [2, 1, 3, 0] rfl) hG
          exact L114 N x100_1 (0 : Int32) σh100 _ _ _ hP hS (lv_sub hl [1, 2, 3, 0] rfl) hT114
    exact L100 N o6 (0 : Int32) σl6 _ _ _ hP hS (lv_sub hl [1, 2, 0] rfl) hT100
  have L6 : ∀ (n6 : Nat) (x6_1 : Int64) (x6_3 : Int32) (σh6 : fS) (H : Heap) (locs : List Loc) (ls : Array Slot), f_h E σh6 H → va_S (f_A E) s.heap H locs → lv_has ls 5 [(0, .ref (E.2.1 0)), (1, .long x6_1), (3, .int x6_3)] → lp_X7_digest_6 N n6 x6_1 x6_3 σh6 = some (o6, σl6) → W p l e rm_X7_digest s m args below meth c H locs 0 0 Q (F0 m 6 ls []) := by
    intro n6
    induction n6 with
    | zero =>
      intro x6_1 x6_3 σh6 H locs ls hP hS hl hG
      rw [lp_X7_digest_6] at hG
      cases hG
    | succ n6 ih6 =>
      intro x6_1 x6_3 σh6 H locs ls hP hS hl hG
      rw [lp_X7_digest_6] at hG
      refine lv_iload_n hx hb dX7_digest_6 rfl (lv_at hl 2 rfl) ?_
      refine lv_bipush (v := 8) hx hb dX7_digest_7 (by decide) ?_
      refine lv_icmp_ge (tgt := 98) hx hb dX7_digest_9 (by decide) (fun c9 => ?_) (fun c9 => ?_)
      · have hG := f_ip c9 hG
        cases hG
        exact T6 _ _ _ hP hS (lv_sub hl [0, 1] rfl)
      · have hG := f_in c9 hG
        refine lv_aload_n hx hb dX7_digest_12 rfl (lv_at hl 0 rfl) ?_
        refine lv_iload_n hx hb dX7_digest_13 rfl (lv_at hl 2 rfl) ?_
        obtain ⟨r14, σ14, hC14, hG⟩ := f_bd hG
        refine iv_X7_115 F hS hP (c_X7_hasForm l E N x6_3 σh6 _ _ hC14) ⟨Nat.le_of_ble_eq_true rfl, Nat.le_of_ble_eq_true rfl⟩ hl.1 (Nat.le_of_ble_eq_true rfl) dX7_digest_14 ⟨Nat.zero_le _, Nat.zero_le _⟩ (fun H locs hP hS => ?_)
        refine lv_if_ne (tgt := 29) hx hb dX7_digest_17 (by decide) (fun c17 => ?_) (fun c17 => ?_)
        · have hG := f_in c17 hG
          refine lv_iconst (v := 0) hx hb dX7_digest_29 (by decide) ?_
          refine lv_istore (lv' := [(4, .int (0 : Int32)), (0, .ref (E.2.1 0)), (1, .long x6_1), (3, .int x6_3)]) hx hb dX7_digest_30 hl (by decide) rfl (fun ls hl => ?_)
          obtain ⟨o32, σl32, hT32, hG⟩ := f_bd hG
          have T32 : ∀ (H : Heap) (locs : List Loc) (ls : Array Slot), f_h E σl32 H → va_S (f_A E) s.heap H locs → lv_has ls 5 [(0, .ref (E.2.1 0)), (1, .long o32), (3, .int x6_3)] → W p l e rm_X7_digest s m args below meth c H locs 0 0 Q (F0 m 57 ls []) := by
            intro H locs ls hP hS hl
            refine lv_iconst (v := 0) hx hb dX7_digest_57 (by decide) ?_
            refine lv_istore (lv' := [(4, .int (0 : Int32)), (0, .ref (E.2.1 0)), (1, .long o32), (3, .int x6_3)]) hx hb dX7_digest_58 hl (by decide) rfl (fun ls hl => ?_)
            obtain ⟨o60, σl60, hT60, hG⟩ := f_bd hG
            have T60 : ∀ (H : Heap) (locs : List Loc) (ls : Array Slot), f_h E σl60 H → va_S (f_A E) s.heap H locs → lv_has ls 5 [(0, .ref (E.2.1 0)), (1, .long o60), (3, .int x6_3)] → W p l e rm_X7_digest s m args below meth c H locs 0 0 Q (F0 m 92 ls []) := by
              intro H locs ls hP hS hl
              refine lv_iinc (v := (x6_3 + (1 : Int32))) (lv' := [(3, .int (x6_3 + (1 : Int32))), (0, .ref (E.2.1 0)), (1, .long o60)]) hx hb dX7_digest_92 hl (k := 2) rfl (by rfl) (by decide) rfl (fun ls hl => ?_)
              refine lv_goto (tgt := 6) hx hb dX7_digest_95 (by decide) ?_
              exact ih6 o60 (x6_3 + (1 : Int32)) σl60 _ _ _ hP hS (lv_sub hl [1, 2, 0] rfl) hG
            have L60 : ∀ (n60 : Nat) (x60_1 : Int64) (x60_4 : Int32) (σh60 : fS) (H : Heap) (locs : List Loc) (ls : Array Slot), f_h E σh60 H → va_S (f_A E) s.heap H locs → lv_has ls 5 [(0, .ref (E.2.1 0)), (1, .long x60_1), (3, .int x6_3), (4, .int x60_4)] → lp_X7_digest_60 N x6_3 n60 x60_1 x60_4 σh60 = some (o60, σl60) → W p l e rm_X7_digest s m args below meth c H locs 0 0 Q (F0 m 60 ls []) := by
              intro n60
              induction n60 with
              | zero =>
                intro x60_1 x60_4 σh60 H locs ls hP hS hl hG
                rw [lp_X7_digest_60] at hG
                cases hG
              | succ n60 ih60 =>
                intro x60_1 x60_4 σh60 H locs ls hP hS hl hG
                rw [lp_X7_digest_60] at hG
                refine lv_iload hx hb dX7_digest_60 (lv_at hl 3 rfl) ?_
                refine lv_aload_n hx hb dX7_digest_62 rfl (lv_at hl 0 rfl) ?_
                refine gf_X7_18 F hP dX7_digest_63 ?_
                refine lv_iload_n hx hb dX7_digest_66 rfl (lv_at hl 2 rfl) ?_
                obtain ⟨h67, hG⟩ := f_gd hG
                have i67 := f_fin h67
                refine x_aald F hP rfl rfl i67 dX7_digest_67 ?_
                refine gf_X7_80 F hP (kd_s i67) dX7_digest_68 ?_
                refine lv_icmp_ge (tgt := 92) hx hb dX7_digest_71 (by decide) (fun c71 => ?_) (fun c71 => ?_)
                · have hG := f_ip c71 hG
                  cases hG
                  exact T60 _ _ _ hP hS (lv_sub hl [0, 1, 2] rfl)
                · have hG := f_in c71 hG
                  refine lv_lload_n hx hb dX7_digest_74 rfl (lv_at hl 1 rfl) ?_
                  refine lv_aload_n hx hb dX7_digest_75 rfl (lv_at hl 0 rfl) ?_
                  refine lv_iload_n hx hb dX7_digest_76 rfl (lv_at hl 2 rfl) ?_
                  refine lv_iload hx hb dX7_digest_77 (lv_at hl 3 rfl) ?_
                  obtain ⟨r79, σ79, hC79, hG⟩ := f_bd hG
                  refine iv_X7_254 F hS hP (c_X7_at l E N x6_3 x60_4 σh60 _ _ hC79) ⟨Nat.le_of_ble_eq_true rfl, Nat.le_of_ble_eq_true rfl⟩ hl.1 (Nat.le_of_ble_eq_true rfl) dX7_digest_79 ⟨Nat.zero_le _, Nat.zero_le _⟩ (fun H locs hP hS => ?_)
                  obtain ⟨r82, σ82, hC82, hG⟩ := f_bd hG
                  refine iv_X7_247 F hS hP (c_X7_mix l E N x60_1 r79 σ79 _ _ hC82) ⟨Nat.le_of_ble_eq_true rfl, Nat.le_of_ble_eq_true rfl⟩ hl.1 (Nat.le_of_ble_eq_true rfl) dX7_digest_82 ⟨Nat.zero_le _, Nat.zero_le _⟩ (fun H locs hP hS => ?_)
                  refine lv_lstore_n (lv' := [(1, .long r82), (0, .ref (E.2.1 0)), (3, .int x6_3), (4, .int x60_4)]) hx hb dX7_digest_85 rfl hl (by decide) rfl (fun ls hl => ?_)
                  refine lv_iinc (v := (x60_4 + (1 : Int32))) (lv' := [(4, .int (x60_4 + (1 : Int32))), (1, .long r82), (0, .ref (E.2.1 0)), (3, .int x6_3)]) hx hb dX7_digest_86 hl (k := 3) rfl (by rfl) (by decide) rfl (fun ls hl => ?_)
                  refine lv_goto (tgt := 60) hx hb dX7_digest_89 (by decide) ?_
                  exact ih60 r82 (x60_4 + (1 : Int32)) σ82 _ _ _ hP hS (lv_sub hl [2, 1, 3, 0] rfl) hG
            exact L60 N o32 (0 : Int32) σl32 _ _ _ hP hS (lv_sub hl [1, 2, 3, 0] rfl) hT60
          have L32 : ∀ (n32 : Nat) (x32_1 : Int64) (x32_4 : Int32) (σh32 : fS) (H : Heap) (locs : List Loc) (ls : Array Slot), f_h E σh32 H → va_S (f_A E) s.heap H locs → lv_has ls 5 [(0, .ref (E.2.1 0)), (1, .long x32_1), (3, .int x6_3), (4, .int x32_4)] → lp_X7_digest_32 N x6_3 n32 x32_1 x32_4 σh32 = some (o32, σl32) → W p l e rm_X7_digest s m args below meth c H locs 0 0 Q (F0 m 32 ls []) := by
            intro n32
            induction n32 with
            | zero =>
              intro x32_1 x32_4 σh32 H locs ls hP hS hl hG
              rw [lp_X7_digest_32] at hG
              cases hG
            | succ n32 ih32 =>
              intro x32_1 x32_4 σh32 H locs ls hP hS hl hG
              rw [lp_X7_digest_32] at hG
              refine lv_iload hx hb dX7_digest_32 (lv_at hl 3 rfl) ?_
              refine lv_bipush (v := 8) hx hb dX7_digest_34 (by decide) ?_
              refine lv_icmp_gt (tgt := 57) hx hb dX7_digest_36 (by decide) (fun c36 => ?_) (fun c36 => ?_)
              · have hG := f_ip c36 hG
                cases hG
                exact T32 _ _ _ hP hS (lv_sub hl [0, 1, 2] rfl)
              · have hG := f_in c36 hG
                refine lv_lload_n hx hb dX7_digest_39 rfl (lv_at hl 1 rfl) ?_
                refine lv_aload_n hx hb dX7_digest_40 rfl (lv_at hl 0 rfl) ?_
                refine lv_iload_n hx hb dX7_digest_41 rfl (lv_at hl 2 rfl) ?_
                refine lv_iload hx hb dX7_digest_42 (lv_at hl 3 rfl) ?_
                obtain ⟨r44, σ44, hC44, hG⟩ := f_bd hG
                refine iv_X7_251 F hS hP (c_X7_about l E N x6_3 x32_4 σh32 _ _ hC44) ⟨Nat.le_of_ble_eq_true rfl, Nat.le_of_ble_eq_true rfl⟩ hl.1 (Nat.le_of_ble_eq_true rfl) dX7_digest_44 ⟨Nat.zero_le _, Nat.zero_le _⟩ (fun H locs hP hS => ?_)
                obtain ⟨r47, σ47, hC47, hG⟩ := f_bd hG
                refine iv_X7_247 F hS hP (c_X7_mix l E N x32_1 r44 σ44 _ _ hC47) ⟨Nat.le_of_ble_eq_true rfl, Nat.le_of_ble_eq_true rfl⟩ hl.1 (Nat.le_of_ble_eq_true rfl) dX7_digest_47 ⟨Nat.zero_le _, Nat.zero_le _⟩ (fun H locs hP hS => ?_)
                refine lv_lstore_n (lv' := [(1, .long r47), (0, .ref (E.2.1 0)), (3, .int x6_3), (4, .int x32_4)]) hx hb dX7_digest_50 rfl hl (by decide) rfl (fun ls hl => ?_)
                refine lv_iinc (v := (x32_4 + (1 : Int32))) (lv' := [(4, .int (x32_4 + (1 : Int32))), (1, .long r47), (0, .ref (E.2.1 0)), (3, .int x6_3)]) hx hb dX7_digest_51 hl (k := 3) rfl (by rfl) (by decide) rfl (fun ls hl => ?_)
                refine lv_goto (tgt := 32) hx hb dX7_digest_54 (by decide) ?_
                exact ih32 r47 (x32_4 + (1 : Int32)) σ47 _ _ _ hP hS (lv_sub hl [2, 1, 3, 0] rfl) hG
          exact L32 N x6_1 (0 : Int32) σ14 _ _ _ hP hS (lv_sub hl [1, 2, 3, 0] rfl) hT32
        · have hG := f_ip c17 hG
          refine lv_lload_n hx hb dX7_digest_20 rfl (lv_at hl 1 rfl) ?_
          refine lv_iconst (v := 0) hx hb dX7_digest_21 (by decide) ?_
          obtain ⟨r22, σ22, hC22, hG⟩ := f_bd hG
          refine iv_X7_247 F hS hP (c_X7_mix l E N x6_1 (0 : Int32) σ14 _ _ hC22) ⟨Nat.le_of_ble_eq_true rfl, Nat.le_of_ble_eq_true rfl⟩ hl.1 (Nat.le_of_ble_eq_true rfl) dX7_digest_22 ⟨Nat.zero_le _, Nat.zero_le _⟩ (fun H locs hP hS => ?_)
          refine lv_lstore_n (lv' := [(1, .long r22), (0, .ref (E.2.1 0)), (3, .int x6_3)]) hx hb dX7_digest_25 rfl hl (by decide) rfl (fun ls hl => ?_)
          refine lv_goto (tgt := 92) hx hb dX7_digest_26 (by decide) ?_
          refine lv_iinc (v := (x6_3 + (1 : Int32))) (lv' := [(3, .int (x6_3 + (1 : Int32))), (1, .long r22), (0, .ref (E.2.1 0))]) hx hb dX7_digest_92 hl (k := 2) rfl (by rfl) (by decide) rfl (fun ls hl => ?_)
          refine lv_goto (tgt := 6) hx hb dX7_digest_95 (by decide) ?_
          exact ih6 r22 (x6_3 + (1 : Int32)) σ22 _ _ _ hP hS (lv_sub hl [2, 1, 0] rfl) hG
  exact L6 N (1487 : Int64) (0 : Int32) σ _ _ _ hP hS (lv_sub hl [2, 1, 0] rfl) hT6
theorem dX8_within_0 : decode cX8_within 0 = .ok (.iload_n 0, 1) := by decide +kernel
theorem dX8_within_1 : decode cX8_within 1 = .ok (.iload_n 1, 1) := by decide +kernel
theorem dX8_within_2 : decode cX8_within 2 = .ok (.if_icmp .lt 12, 3) := by decide +kernel
theorem dX8_within_5 : decode cX8_within 5 = .ok (.iload_n 0, 1) := by decide +kernel
theorem dX8_within_6 : decode cX8_within 6 = .ok (.iload_n 2, 1) := by decide +kernel
theorem dX8_within_7 : decode cX8_within 7 = .ok (.if_icmp .gt 7, 3) := by decide +kernel
theorem dX8_within_10 : decode cX8_within 10 = .ok (.iconst 1, 1) := by decide +kernel
theorem dX8_within_11 : decode cX8_within 11 = .ok (.goto 4, 3) := by decide +kernel
theorem dX8_within_14 : decode cX8_within 14 = .ok (.iconst 0, 1) := by decide +kernel
theorem dX8_within_15 : decode cX8_within 15 = .ok (.ireturn, 1) := by decide +kernel
set_option maxHeartbeats 4000000 in
set_option maxRecDepth 100000 in
theorem c_X8_within (l : Launch) (E : fEv) (N : Nat) (a0 : Int32) (a1 : Int32) (a2 : Int32) (σ : fS) (r : Int32) (τ : fS) (hG : g_X8_within N a0 a1 a2 σ = some (r, τ)) : fM l E yX8_within (.code yX8_within cX8_within 3 (some .boolean)) rm_X8_within [.int a0, .int a1, .int a2] σ τ (some (.int r)) := by
  refine f_openZ (by decide) (Nat.le_of_ble_eq_true rfl) ?_
  intro p e s m below meth c args Q F hR hP ls hl
  have hx := F.1.1
  have hb := F.1.2.1
  have hown := F.1.2.2.2.1
  have hts := F.1.2.2.2.2
  have hS : va_S (f_A E) s.heap s.heap [] := va_S.rf
  skip
  have hl : lv_has ls 3 [(0, .int a0), (1, .int a1), (2, .int a2)] := hl
  unfold g_X8_within at hG
  refine lv_iload_n hx hb dX8_within_0 rfl (lv_at hl 0 rfl) ?_
  refine lv_iload_n hx hb dX8_within_1 rfl (lv_at hl 1 rfl) ?_
  refine lv_icmp_lt (tgt := 14) hx hb dX8_within_2 (by decide) (fun c2 => ?_) (fun c2 => ?_)
  · have hG := f_ip c2 hG
    refine lv_iconst (v := 0) hx hb dX8_within_14 (by decide) ?_
    exact x_rz hR hS hP (Or.inl rfl) hG dX8_within_15
  · have hG := f_in c2 hG
    refine lv_iload_n hx hb dX8_within_5 rfl (lv_at hl 0 rfl) ?_
    refine lv_iload_n hx hb dX8_within_6 rfl (lv_at hl 2 rfl) ?_
    refine lv_icmp_gt (tgt := 14) hx hb dX8_within_7 (by decide) (fun c7 => ?_) (fun c7 => ?_)
    · have hG := f_ip c7 hG
      refine lv_iconst (v := 0) hx hb dX8_within_14 (by decide) ?_
      exact x_rz hR hS hP (Or.inl rfl) hG dX8_within_15
    · have hG := f_in c7 hG
      refine lv_iconst (v := 1) hx hb dX8_within_10 (by decide) ?_
      refine lv_goto (tgt := 15) hx hb dX8_within_11 (by decide) ?_
      exact x_rz hR hS hP (Or.inr rfl) hG dX8_within_15
theorem dX8_isIn_0 : decode cX8_isIn 0 = .ok (.iload_n 0, 1) := by decide +kernel
theorem dX8_isIn_1 : decode cX8_isIn 1 = .ok (.iload_n 1, 1) := by decide +kernel
theorem dX8_isIn_2 : decode cX8_isIn 2 = .ok (.ishr, 1) := by decide +kernel
theorem dX8_isIn_3 : decode cX8_isIn 3 = .ok (.iconst 1, 1) := by decide +kernel
theorem dX8_isIn_4 : decode cX8_isIn 4 = .ok (.iand, 1) := by decide +kernel
theorem dX8_isIn_5 : decode cX8_isIn 5 = .ok (.iconst 1, 1) := by decide +kernel
theorem dX8_isIn_6 : decode cX8_isIn 6 = .ok (.if_icmp .ne 7, 3) := by decide +kernel
theorem dX8_isIn_9 : decode cX8_isIn 9 = .ok (.iconst 1, 1) := by decide +kernel
theorem dX8_isIn_10 : decode cX8_isIn 10 = .ok (.goto 4, 3) := by decide +kernel
theorem dX8_isIn_13 : decode cX8_isIn 13 = .ok (.iconst 0, 1) := by decide +kernel
theorem dX8_isIn_14 : decode cX8_isIn 14 = .ok (.ireturn, 1) := by decide +kernel
set_option maxHeartbeats 4000000 in
set_option maxRecDepth 100000 in
theorem c_X8_isIn (l : Launch) (E : fEv) (N : Nat) (a0 : Int32) (a1 : Int32) (σ : fS) (r : Int32) (τ : fS) (hG : g_X8_isIn N a0 a1 σ = some (r, τ)) : fM l E yX8_isIn (.code yX8_isIn cX8_isIn 2 (some .boolean)) rm_X8_isIn [.int a0, .int a1] σ τ (some (.int r)) := by
  refine f_openZ (by decide) (Nat.le_of_ble_eq_true rfl) ?_
  intro p e s m below meth c args Q F hR hP ls hl
  have hx := F.1.1
  have hb := F.1.2.1
  have hown := F.1.2.2.2.1
  have hts := F.1.2.2.2.2
  have hS : va_S (f_A E) s.heap s.heap [] := va_S.rf
  skip
  have hl : lv_has ls 2 [(0, .int a0), (1, .int a1)] := hl
  unfold g_X8_isIn at hG
  refine lv_iload_n hx hb dX8_isIn_0 rfl (lv_at hl 0 rfl) ?_
  refine lv_iload_n hx hb dX8_isIn_1 rfl (lv_at hl 1 rfl) ?_
  refine lv_ishr hx hb dX8_isIn_2 ?_
  refine lv_iconst (v := 1) hx hb dX8_isIn_3 (by decide) ?_
  refine lv_iand hx hb dX8_isIn_4 ?_
  refine lv_iconst (v := 1) hx hb dX8_isIn_5 (by decide) ?_
  refine lv_icmp_ne (tgt := 13) hx hb dX8_isIn_6 (by decide) (fun c6 => ?_) (fun c6 => ?_)
  · have hG := f_in c6 hG
    refine lv_iconst (v := 0) hx hb dX8_isIn_13 (by decide) ?_
    exact x_rz hR hS hP (Or.inl rfl) hG dX8_isIn_14
  · have hG := f_ip c6 hG
    refine lv_iconst (v := 1) hx hb dX8_isIn_9 (by decide) ?_
    refine lv_goto (tgt := 14) hx hb dX8_isIn_10 (by decide) ?_
    exact x_rz hR hS hP (Or.inr rfl) hG dX8_isIn_14
theorem dX8_primeAt_0 : decode cX8_primeAt 0 = .ok (.iload_n 0, 1) := by decide +kernel
theorem dX8_primeAt_1 : decode cX8_primeAt 1 = .ok (.tableswitch 47 1 5 #[35, 37, 39, 41, 44], 35) := by decide +kernel
theorem dX8_primeAt_36 : decode cX8_primeAt 36 = .ok (.iconst 2, 1) := by decide +kernel
theorem dX8_primeAt_37 : decode cX8_primeAt 37 = .ok (.ireturn, 1) := by decide +kernel
theorem dX8_primeAt_38 : decode cX8_primeAt 38 = .ok (.iconst 3, 1) := by decide +kernel
theorem dX8_primeAt_39 : decode cX8_primeAt 39 = .ok (.ireturn, 1) := by decide +kernel
theorem dX8_primeAt_40 : decode cX8_primeAt 40 = .ok (.iconst 5, 1) := by decide +kernel
theorem dX8_primeAt_41 : decode cX8_primeAt 41 = .ok (.ireturn, 1) := by decide +kernel
theorem dX8_primeAt_42 : decode cX8_primeAt 42 = .ok (.bipush 7, 2) := by decide +kernel
theorem dX8_primeAt_44 : decode cX8_primeAt 44 = .ok (.ireturn, 1) := by decide +kernel
theorem dX8_primeAt_45 : decode cX8_primeAt 45 = .ok (.bipush 11, 2) := by decide +kernel
theorem dX8_primeAt_47 : decode cX8_primeAt 47 = .ok (.ireturn, 1) := by decide +kernel
theorem dX8_primeAt_48 : decode cX8_primeAt 48 = .ok (.bipush 13, 2) := by decide +kernel
theorem dX8_primeAt_50 : decode cX8_primeAt 50 = .ok (.ireturn, 1) := by decide +kernel
set_option maxHeartbeats 4000000 in
set_option maxRecDepth 100000 in
theorem c_X8_primeAt (l : Launch) (E : fEv) (N : Nat) (a0 : Int32) (σ : fS) (r : Int32) (τ : fS) (hG : g_X8_primeAt N a0 σ = some (r, τ)) : fM l E yX8_primeAt (.code yX8_primeAt cX8_primeAt 1 (some .int)) rm_X8_primeAt [.int a0] σ τ (some (.int r)) := by
  refine f_openI (by decide) (Nat.le_of_ble_eq_true rfl) ?_
  intro p e s m below meth c args Q F hR hP ls hl
  have hx := F.1.1
  have hb := F.1.2.1
  have hown := F.1.2.2.2.1
  have hts := F.1.2.2.2.2
  have hS : va_S (f_A E) s.heap s.heap [] := va_S.rf
  skip
  have hl : lv_has ls 1 [(0, .int a0)] := hl
  unfold g_X8_primeAt at hG
  refine lv_iload_n hx hb dX8_primeAt_0 rfl (lv_at hl 0 rfl) ?_
  by_cases c1_1 : a0 = 1
  · have hG := f_ip c1_1 hG
    refine lv_tableIn (off := 35) (tgt := 36) hx hb dX8_primeAt_1 (by rw [c1_1]; decide) (by rw [c1_1]; decide) (by rw [c1_1]; rfl) (by decide) ?_
    refine lv_iconst (v := 2) hx hb dX8_primeAt_36 (by decide) ?_
    exact x_ri hR hS hP hG dX8_primeAt_37
  · have hG := f_in c1_1 hG
    by_cases c1_2 : a0 = 2
    · have hG := f_ip c1_2 hG
      refine lv_tableIn (off := 37) (tgt := 38) hx hb dX8_primeAt_1 (by rw [c1_2]; decide) (by rw [c1_2]; decide) (by rw [c1_2]; rfl) (by decide) ?_
      refine lv_iconst (v := 3) hx hb dX8_primeAt_38 (by decide) ?_
      exact x_ri hR hS hP hG dX8_primeAt_39
    · have hG := f_in c1_2 hG
      by_cases c1_3 : a0 = 3
      · have hG := f_ip c1_3 hG
        refine lv_tableIn (off := 39) (tgt := 40) hx hb dX8_primeAt_1 (by rw [c1_3]; decide) (by rw [c1_3]; decide) (by rw [c1_3]; rfl) (by decide) ?_
        refine lv_iconst (v := 5) hx hb dX8_primeAt_40 (by decide) ?_
        exact x_ri hR hS hP hG dX8_primeAt_41
      · have hG := f_in c1_3 hG
        by_cases c1_4 : a0 = 4
        · have hG := f_ip c1_4 hG
          refine lv_tableIn (off := 41) (tgt := 42) hx hb dX8_primeAt_1 (by rw [c1_4]; decide) (by rw [c1_4]; decide) (by rw [c1_4]; rfl) (by decide) ?_
          refine lv_bipush (v := 7) hx hb dX8_primeAt_42 (by decide) ?_
          exact x_ri hR hS hP hG dX8_primeAt_44
        · have hG := f_in c1_4 hG
          by_cases c1_5 : a0 = 5
          · have hG := f_ip c1_5 hG
            refine lv_tableIn (off := 44) (tgt := 45) hx hb dX8_primeAt_1 (by rw [c1_5]; decide) (by rw [c1_5]; decide) (by rw [c1_5]; rfl) (by decide) ?_
            refine lv_bipush (v := 11) hx hb dX8_primeAt_45 (by decide) ?_
            exact x_ri hR hS hP hG dX8_primeAt_47
          · have hG := f_in c1_5 hG
            have n1_1 := lv_neT c1_1 (show (1 : Int32).toInt = 1 from rfl)
            have n1_2 := lv_neT c1_2 (show (2 : Int32).toInt = 2 from rfl)
            have n1_3 := lv_neT c1_3 (show (3 : Int32).toInt = 3 from rfl)
            have n1_4 := lv_neT c1_4 (show (4 : Int32).toInt = 4 from rfl)
            have n1_5 := lv_neT c1_5 (show (5 : Int32).toInt = 5 from rfl)
            refine lv_tableOut (tgt := 48) hx hb dX8_primeAt_1 (by omega) (by decide) ?_
            refine lv_bipush (v := 13) hx hb dX8_primeAt_48 (by decide) ?_
            exact x_ri hR hS hP hG dX8_primeAt_50
theorem dX8_modAt_0 : decode cX8_modAt 0 = .ok (.iload_n 0, 1) := by decide +kernel
theorem dX8_modAt_1 : decode cX8_modAt 1 = .ok (.iconst 1, 1) := by decide +kernel
theorem dX8_modAt_2 : decode cX8_modAt 2 = .ok (.if_icmp .ne 8, 3) := by decide +kernel
theorem dX8_modAt_5 : decode cX8_modAt 5 = .ok (.bipush 16, 2) := by decide +kernel
theorem dX8_modAt_7 : decode cX8_modAt 7 = .ok (.goto 12, 3) := by decide +kernel
theorem dX8_modAt_10 : decode cX8_modAt 10 = .ok (.iload_n 0, 1) := by decide +kernel
theorem dX8_modAt_11 : decode cX8_modAt 11 = .ok (.invokestatic 81, 3) := by decide +kernel
theorem dX8_modAt_14 : decode cX8_modAt 14 = .ok (.iload_n 0, 1) := by decide +kernel
theorem dX8_modAt_15 : decode cX8_modAt 15 = .ok (.invokestatic 81, 3) := by decide +kernel
theorem dX8_modAt_18 : decode cX8_modAt 18 = .ok (.imul, 1) := by decide +kernel
theorem dX8_modAt_19 : decode cX8_modAt 19 = .ok (.ireturn, 1) := by decide +kernel
set_option maxHeartbeats 4000000 in
set_option maxRecDepth 100000 in
theorem c_X8_modAt (l : Launch) (E : fEv) (N : Nat) (a0 : Int32) (σ : fS) (r : Int32) (τ : fS) (hG : g_X8_modAt N a0 σ = some (r, τ)) : fM l E yX8_modAt (.code yX8_modAt cX8_modAt 1 (some .int)) rm_X8_modAt [.int a0] σ τ (some (.int r)) := by
  refine f_openI (by decide) (Nat.le_of_ble_eq_true rfl) ?_
  intro p e s m below meth c args Q F hR hP ls hl
  have hx := F.1.1
  have hb := F.1.2.1
  have hown := F.1.2.2.2.1
  have hts := F.1.2.2.2.2
  have hS : va_S (f_A E) s.heap s.heap [] := va_S.rf
  skip
  have hl : lv_has ls 1 [(0, .int a0)] := hl
  unfold g_X8_modAt at hG
  refine lv_iload_n hx hb dX8_modAt_0 rfl (lv_at hl 0 rfl) ?_
  refine lv_iconst (v := 1) hx hb dX8_modAt_1 (by decide) ?_
  refine lv_icmp_ne (tgt := 10) hx hb dX8_modAt_2 (by decide) (fun c2 => ?_) (fun c2 => ?_)
  · have hG := f_in c2 hG
    refine lv_iload_n hx hb dX8_modAt_10 rfl (lv_at hl 0 rfl) ?_
    obtain ⟨r11, σ11, hC11, hG⟩ := f_bd hG
    refine iv_X8_81 F hS hP (c_X8_primeAt l E N a0 σ _ _ hC11) ⟨Nat.le_of_ble_eq_true rfl, Nat.le_of_ble_eq_true rfl⟩ hl.1 (Nat.le_of_ble_eq_true rfl) dX8_modAt_11 ⟨Nat.zero_le _, Nat.zero_le _⟩ (fun H locs hP hS => ?_)
    refine lv_iload_n hx hb dX8_modAt_14 rfl (lv_at hl 0 rfl) ?_
    obtain ⟨r15, σ15, hC15, hG⟩ := f_bd hG
    refine iv_X8_81 F hS hP (c_X8_primeAt l E N a0 σ11 _ _ hC15) ⟨Nat.le_of_ble_eq_true rfl, Nat.le_of_ble_eq_true rfl⟩ hl.1 (Nat.le_of_ble_eq_true rfl) dX8_modAt_15 ⟨Nat.zero_le _, Nat.zero_le _⟩ (fun H locs hP hS => ?_)
    refine lv_imul hx hb dX8_modAt_18 ?_
    exact x_ri hR hS hP hG dX8_modAt_19
  · have hG := f_ip c2 hG
    refine lv_bipush (v := 16) hx hb dX8_modAt_5 (by decide) ?_
    refine lv_goto (tgt := 19) hx hb dX8_modAt_7 (by decide) ?_
    exact x_ri hR hS hP hG dX8_modAt_19
theorem dX8_coreOf_0 : decode cX8_coreOf 0 = .ok (.iload_n 0, 1) := by decide +kernel
theorem dX8_coreOf_1 : decode cX8_coreOf 1 = .ok (.iconst 0, 1) := by decide +kernel
theorem dX8_coreOf_2 : decode cX8_coreOf 2 = .ok (.invokestatic 85, 3) := by decide +kernel
theorem dX8_coreOf_5 : decode cX8_coreOf 5 = .ok (.ifCond .eq 7, 3) := by decide +kernel
theorem dX8_coreOf_8 : decode cX8_coreOf 8 = .ok (.iconst (-1), 1) := by decide +kernel
theorem dX8_coreOf_9 : decode cX8_coreOf 9 = .ok (.goto 4, 3) := by decide +kernel
theorem dX8_coreOf_12 : decode cX8_coreOf 12 = .ok (.iconst 1, 1) := by decide +kernel
theorem dX8_coreOf_13 : decode cX8_coreOf 13 = .ok (.istore_n 1, 1) := by decide +kernel
theorem dX8_coreOf_14 : decode cX8_coreOf 14 = .ok (.iconst 1, 1) := by decide +kernel
theorem dX8_coreOf_15 : decode cX8_coreOf 15 = .ok (.istore_n 2, 1) := by decide +kernel
theorem dX8_coreOf_16 : decode cX8_coreOf 16 = .ok (.iload_n 2, 1) := by decide +kernel
theorem dX8_coreOf_17 : decode cX8_coreOf 17 = .ok (.bipush 7, 2) := by decide +kernel
theorem dX8_coreOf_19 : decode cX8_coreOf 19 = .ok (.if_icmp .ge 28, 3) := by decide +kernel
theorem dX8_coreOf_22 : decode cX8_coreOf 22 = .ok (.iload_n 1, 1) := by decide +kernel
theorem dX8_coreOf_23 : decode cX8_coreOf 23 = .ok (.iload_n 0, 1) := by decide +kernel
theorem dX8_coreOf_24 : decode cX8_coreOf 24 = .ok (.iload_n 2, 1) := by decide +kernel
theorem dX8_coreOf_25 : decode cX8_coreOf 25 = .ok (.invokestatic 85, 3) := by decide +kernel
theorem dX8_coreOf_28 : decode cX8_coreOf 28 = .ok (.ifCond .eq 10, 3) := by decide +kernel
theorem dX8_coreOf_31 : decode cX8_coreOf 31 = .ok (.iload_n 2, 1) := by decide +kernel
theorem dX8_coreOf_32 : decode cX8_coreOf 32 = .ok (.invokestatic 81, 3) := by decide +kernel
theorem dX8_coreOf_35 : decode cX8_coreOf 35 = .ok (.goto 4, 3) := by decide +kernel
theorem dX8_coreOf_38 : decode cX8_coreOf 38 = .ok (.iconst 1, 1) := by decide +kernel
theorem dX8_coreOf_39 : decode cX8_coreOf 39 = .ok (.imul, 1) := by decide +kernel
theorem dX8_coreOf_40 : decode cX8_coreOf 40 = .ok (.istore_n 1, 1) := by decide +kernel
theorem dX8_coreOf_41 : decode cX8_coreOf 41 = .ok (.iinc 2 1, 3) := by decide +kernel
theorem dX8_coreOf_44 : decode cX8_coreOf 44 = .ok (.goto (-28), 3) := by decide +kernel
theorem dX8_coreOf_47 : decode cX8_coreOf 47 = .ok (.iload_n 1, 1) := by decide +kernel
theorem dX8_coreOf_48 : decode cX8_coreOf 48 = .ok (.ireturn, 1) := by decide +kernel
set_option maxHeartbeats 4000000 in
set_option maxRecDepth 100000 in
theorem c_X8_coreOf (l : Launch) (E : fEv) (N : Nat) (a0 : Int32) (σ : fS) (r : Int32) (τ : fS) (hG : g_X8_coreOf N a0 σ = some (r, τ)) : fM l E yX8_coreOf (.code yX8_coreOf cX8_coreOf 3 (some .int)) rm_X8_coreOf [.int a0] σ τ (some (.int r)) := by
  refine f_openI (by decide) (Nat.le_of_ble_eq_true rfl) ?_
  intro p e s m below meth c args Q F hR hP ls hl
  have hx := F.1.1
  have hb := F.1.2.1
  have hown := F.1.2.2.2.1
  have hts := F.1.2.2.2.2
  have hS : va_S (f_A E) s.heap s.heap [] := va_S.rf
  skip
  have hl : lv_has ls 3 [(0, .int a0)] := hl
  unfold g_X8_coreOf at hG
  refine lv_iload_n hx hb dX8_coreOf_0 rfl (lv_at hl 0 rfl) ?_
  refine lv_iconst (v := 0) hx hb dX8_coreOf_1 (by decide) ?_
  obtain ⟨r2, σ2, hC2, hG⟩ := f_bd hG
  refine iv_X8_85 F hS hP (c_X8_isIn l E N a0 (0 : Int32) σ _ _ hC2) ⟨Nat.le_of_ble_eq_true rfl, Nat.le_of_ble_eq_true rfl⟩ hl.1 (Nat.le_of_ble_eq_true rfl) dX8_coreOf_2 ⟨Nat.zero_le _, Nat.zero_le _⟩ (fun H locs hP hS => ?_)
  obtain ⟨o5, σj5, hT5, hG⟩ := f_bd hG
  have T5 : ∀ (H : Heap) (locs : List Loc) (ls : Array Slot), f_h E σj5 H → va_S (f_A E) s.heap H locs → lv_has ls 3 [(0, .int a0)] → W p l e rm_X8_coreOf s m args below meth c H locs 0 0 Q (F0 m 13 ls [.int o5]) := by
    intro H locs ls hP hS hl
    refine lv_istore_n (lv' := [(1, .int o5), (0, .int a0)]) hx hb dX8_coreOf_13 rfl hl (by decide) rfl (fun ls hl => ?_)
    refine lv_iconst (v := 1) hx hb dX8_coreOf_14 (by decide) ?_
    refine lv_istore_n (lv' := [(2, .int (1 : Int32)), (1, .int o5), (0, .int a0)]) hx hb dX8_coreOf_15 rfl hl (by decide) rfl (fun ls hl => ?_)
    obtain ⟨o16, σl16, hT16, hG⟩ := f_bd hG
    have T16 : ∀ (H : Heap) (locs : List Loc) (ls : Array Slot), f_h E σl16 H → va_S (f_A E) s.heap H locs → lv_has ls 3 [(1, .int o16)] → W p l e rm_X8_coreOf s m args below meth c H locs 0 0 Q (F0 m 47 ls []) := by
      intro H locs ls hP hS hl
      refine lv_iload_n hx hb dX8_coreOf_47 rfl (lv_at hl 0 rfl) ?_
      exact x_ri hR hS hP hG dX8_coreOf_48
    have L16 : ∀ (n16 : Nat) (x16_1 : Int32) (x16_2 : Int32) (σh16 : fS) (H : Heap) (locs : List Loc) (ls : Array Slot), f_h E σh16 H → va_S (f_A E) s.heap H locs → lv_has ls 3 [(0, .int a0), (1, .int x16_1), (2, .int x16_2)] → lp_X8_coreOf_16 N a0 n16 x16_1 x16_2 σh16 = some (o16, σl16) → W p l e rm_X8_coreOf s m args below meth c H locs 0 0 Q (F0 m 16 ls []) := by
      intro n16
      induction n16 with
      | zero =>
        intro x16_1 x16_2 σh16 H locs ls hP hS hl hG
        rw [lp_X8_coreOf_16] at hG
        cases hG
      | succ n16 ih16 =>
        intro x16_1 x16_2 σh16 H locs ls hP hS hl hG
        rw [lp_X8_coreOf_16] at hG
        refine lv_iload_n hx hb dX8_coreOf_16 rfl (lv_at hl 2 rfl) ?_
        refine lv_bipush (v := 7) hx hb dX8_coreOf_17 (by decide) ?_
        refine lv_icmp_ge (tgt := 47) hx hb dX8_coreOf_19 (by decide) (fun c19 => ?_) (fun c19 => ?_)
        · have hG := f_ip c19 hG
          cases hG
          exact T16 _ _ _ hP hS (lv_sub hl [1] rfl)
        · have hG := f_in c19 hG
          refine lv_iload_n hx hb dX8_coreOf_22 rfl (lv_at hl 1 rfl) ?_
          refine lv_iload_n hx hb dX8_coreOf_23 rfl (lv_at hl 0 rfl) ?_
          refine lv_iload_n hx hb dX8_coreOf_24 rfl (lv_at hl 2 rfl) ?_
          obtain ⟨r25, σ25, hC25, hG⟩ := f_bd hG
          refine iv_X8_85 F hS hP (c_X8_isIn l E N a0 x16_2 σh16 _ _ hC25) ⟨Nat.le_of_ble_eq_true rfl, Nat.le_of_ble_eq_true rfl⟩ hl.1 (Nat.le_of_ble_eq_true rfl) dX8_coreOf_25 ⟨Nat.zero_le _, Nat.zero_le _⟩ (fun H locs hP hS => ?_)
          refine lv_if_eq (tgt := 38) hx hb dX8_coreOf_28 (by decide) (fun c28 => ?_) (fun c28 => ?_)
          · have hG := f_ip c28 hG
            refine lv_iconst (v := 1) hx hb dX8_coreOf_38 (by decide) ?_
            refine lv_imul hx hb dX8_coreOf_39 ?_
            refine lv_topi (fun v40 e40 => ?_)
            have hG := f_lt hG e40
            refine lv_istore_n (lv' := [(1, .int v40), (0, .int a0), (2, .int x16_2)]) hx hb dX8_coreOf_40 rfl hl (by decide) rfl (fun ls hl => ?_)
            refine lv_iinc (v := (x16_2 + (1 : Int32))) (lv' := [(2, .int (x16_2 + (1 : Int32))), (1, .int v40), (0, .int a0)]) hx hb dX8_coreOf_41 hl (k := 2) rfl (by rfl) (by decide) rfl (fun ls hl => ?_)
            refine lv_goto (tgt := 16) hx hb dX8_coreOf_44 (by decide) ?_
            exact ih16 v40 (x16_2 + (1 : Int32)) σ25 _ _ _ hP hS (lv_sub hl [2, 1, 0] rfl) hG
          · have hG := f_in c28 hG
            refine lv_iload_n hx hb dX8_coreOf_31 rfl (lv_at hl 2 rfl) ?_
            obtain ⟨r32, σ32, hC32, hG⟩ := f_bd hG
            refine iv_X8_81 F hS hP (c_X8_primeAt l E N x16_2 σ25 _ _ hC32) ⟨Nat.le_of_ble_eq_true rfl, Nat.le_of_ble_eq_true rfl⟩ hl.1 (Nat.le_of_ble_eq_true rfl) dX8_coreOf_32 ⟨Nat.zero_le _, Nat.zero_le _⟩ (fun H locs hP hS => ?_)
            refine lv_goto (tgt := 39) hx hb dX8_coreOf_35 (by decide) ?_
            refine lv_imul hx hb dX8_coreOf_39 ?_
            refine lv_topi (fun v40 e40 => ?_)
            have hG := f_lt hG e40
            refine lv_istore_n (lv' := [(1, .int v40), (0, .int a0), (2, .int x16_2)]) hx hb dX8_coreOf_40 rfl hl (by decide) rfl (fun ls hl => ?_)
            refine lv_iinc (v := (x16_2 + (1 : Int32))) (lv' := [(2, .int (x16_2 + (1 : Int32))), (1, .int v40), (0, .int a0)]) hx hb dX8_coreOf_41 hl (k := 2) rfl (by rfl) (by decide) rfl (fun ls hl => ?_)
            refine lv_goto (tgt := 16) hx hb dX8_coreOf_44 (by decide) ?_
            exact ih16 v40 (x16_2 + (1 : Int32)) σ32 _ _ _ hP hS (lv_sub hl [2, 1, 0] rfl) hG
    exact L16 N o5 (1 : Int32) σj5 _ _ _ hP hS (lv_sub hl [2, 1, 0] rfl) hT16
  have hG := hT5
  clear hT5
  refine lv_if_eq (tgt := 12) hx hb dX8_coreOf_5 (by decide) (fun c5 => ?_) (fun c5 => ?_)
  · have hG := f_ip c5 hG
    refine lv_iconst (v := 1) hx hb dX8_coreOf_12 (by decide) ?_
    cases hG
    exact T5 _ _ _ hP hS (lv_sub hl [0] rfl)
  · have hG := f_in c5 hG
    refine lv_iconst (v := -1) hx hb dX8_coreOf_8 (by decide) ?_
    refine lv_goto (tgt := 13) hx hb dX8_coreOf_9 (by decide) ?_
    cases hG
    exact T5 _ _ _ hP hS (lv_sub hl [0] rfl)
theorem dX8_leftOf_0 : decode cX8_leftOf 0 = .ok (.iload_n 0, 1) := by decide +kernel
theorem dX8_leftOf_1 : decode cX8_leftOf 1 = .ok (.ifCond .ge 8, 3) := by decide +kernel
theorem dX8_leftOf_4 : decode cX8_leftOf 4 = .ok (.iload_n 0, 1) := by decide +kernel
theorem dX8_leftOf_5 : decode cX8_leftOf 5 = .ok (.ineg, 1) := by decide +kernel
theorem dX8_leftOf_6 : decode cX8_leftOf 6 = .ok (.goto 4, 3) := by decide +kernel
theorem dX8_leftOf_9 : decode cX8_leftOf 9 = .ok (.iload_n 0, 1) := by decide +kernel
theorem dX8_leftOf_10 : decode cX8_leftOf 10 = .ok (.istore_n 1, 1) := by decide +kernel
theorem dX8_leftOf_11 : decode cX8_leftOf 11 = .ok (.iconst 1, 1) := by decide +kernel
theorem dX8_leftOf_12 : decode cX8_leftOf 12 = .ok (.istore_n 2, 1) := by decide +kernel
theorem dX8_leftOf_13 : decode cX8_leftOf 13 = .ok (.iload_n 2, 1) := by decide +kernel
theorem dX8_leftOf_14 : decode cX8_leftOf 14 = .ok (.bipush 7, 2) := by decide +kernel
theorem dX8_leftOf_16 : decode cX8_leftOf 16 = .ok (.if_icmp .ge 28, 3) := by decide +kernel
theorem dX8_leftOf_19 : decode cX8_leftOf 19 = .ok (.iload_n 1, 1) := by decide +kernel
theorem dX8_leftOf_20 : decode cX8_leftOf 20 = .ok (.iload_n 2, 1) := by decide +kernel
theorem dX8_leftOf_21 : decode cX8_leftOf 21 = .ok (.invokestatic 81, 3) := by decide +kernel
theorem dX8_leftOf_24 : decode cX8_leftOf 24 = .ok (.irem, 1) := by decide +kernel
theorem dX8_leftOf_25 : decode cX8_leftOf 25 = .ok (.ifCond .ne 13, 3) := by decide +kernel
theorem dX8_leftOf_28 : decode cX8_leftOf 28 = .ok (.iload_n 1, 1) := by decide +kernel
theorem dX8_leftOf_29 : decode cX8_leftOf 29 = .ok (.iload_n 2, 1) := by decide +kernel
theorem dX8_leftOf_30 : decode cX8_leftOf 30 = .ok (.invokestatic 81, 3) := by decide +kernel
theorem dX8_leftOf_33 : decode cX8_leftOf 33 = .ok (.idiv, 1) := by decide +kernel
theorem dX8_leftOf_34 : decode cX8_leftOf 34 = .ok (.istore_n 1, 1) := by decide +kernel
theorem dX8_leftOf_35 : decode cX8_leftOf 35 = .ok (.goto (-16), 3) := by decide +kernel
theorem dX8_leftOf_38 : decode cX8_leftOf 38 = .ok (.iinc 2 1, 3) := by decide +kernel
theorem dX8_leftOf_41 : decode cX8_leftOf 41 = .ok (.goto (-28), 3) := by decide +kernel
theorem dX8_leftOf_44 : decode cX8_leftOf 44 = .ok (.iload_n 1, 1) := by decide +kernel
theorem dX8_leftOf_45 : decode cX8_leftOf 45 = .ok (.ireturn, 1) := by decide +kernel
set_option maxHeartbeats 4000000 in
set_option maxRecDepth 100000 in
theorem c_X8_leftOf (l : Launch) (E : fEv) (N : Nat) (a0 : Int32) (σ : fS) (r : Int32) (τ : fS) (hG : g_X8_leftOf N a0 σ = some (r, τ)) : fM l E yX8_leftOf (.code yX8_leftOf cX8_leftOf 3 (some .int)) rm_X8_leftOf [.int a0] σ τ (some (.int r)) := by
  refine f_openI (by decide) (Nat.le_of_ble_eq_true rfl) ?_
  intro p e s m below meth c args Q F hR hP ls hl
  have hx := F.1.1
  have hb := F.1.2.1
  have hown := F.1.2.2.2.1
  have hts := F.1.2.2.2.2
  have hS : va_S (f_A E) s.heap s.heap [] := va_S.rf
  skip
  have hl : lv_has ls 3 [(0, .int a0)] := hl
  unfold g_X8_leftOf at hG
  refine lv_iload_n hx hb dX8_leftOf_0 rfl (lv_at hl 0 rfl) ?_
  obtain ⟨o1, σj1, hT1, hG⟩ := f_bd hG
  have T1 : ∀ (H : Heap) (locs : List Loc) (ls : Array Slot), f_h E σj1 H → va_S (f_A E) s.heap H locs → lv_has ls 3 [] → W p l e rm_X8_leftOf s m args below meth c H locs 0 0 Q (F0 m 10 ls [.int o1]) := by
    intro H locs ls hP hS hl
    refine lv_istore_n (lv' := [(1, .int o1)]) hx hb dX8_leftOf_10 rfl hl (by decide) rfl (fun ls hl => ?_)
    refine lv_iconst (v := 1) hx hb dX8_leftOf_11 (by decide) ?_
    refine lv_istore_n (lv' := [(2, .int (1 : Int32)), (1, .int o1)]) hx hb dX8_leftOf_12 rfl hl (by decide) rfl (fun ls hl => ?_)
    obtain ⟨o13, σl13, hT13, hG⟩ := f_bd hG
    have T13 : ∀ (H : Heap) (locs : List Loc) (ls : Array Slot), f_h E σl13 H → va_S (f_A E) s.heap H locs → lv_has ls 3 [(1, .int o13)] → W p l e rm_X8_leftOf s m args below meth c H locs 0 0 Q (F0 m 44 ls []) := by
      intro H locs ls hP hS hl
      refine lv_iload_n hx hb dX8_leftOf_44 rfl (lv_at hl 0 rfl) ?_
      exact x_ri hR hS hP hG dX8_leftOf_45
    have L13 : ∀ (n13 : Nat) (x13_1 : Int32) (x13_2 : Int32) (σh13 : fS) (H : Heap) (locs : List Loc) (ls : Array Slot), f_h E σh13 H → va_S (f_A E) s.heap H locs → lv_has ls 3 [(1, .int x13_1), (2, .int x13_2)] → lp_X8_leftOf_13 N n13 x13_1 x13_2 σh13 = some (o13, σl13) → W p l e rm_X8_leftOf s m args below meth c H locs 0 0 Q (F0 m 13 ls []) := by
      intro n13
      induction n13 with
      | zero =>
        intro x13_1 x13_2 σh13 H locs ls hP hS hl hG
        rw [lp_X8_leftOf_13] at hG
        cases hG
      | succ n13 ih13 =>
        intro x13_1 x13_2 σh13 H locs ls hP hS hl hG
        rw [lp_X8_leftOf_13] at hG
        refine lv_iload_n hx hb dX8_leftOf_13 rfl (lv_at hl 1 rfl) ?_
        refine lv_bipush (v := 7) hx hb dX8_leftOf_14 (by decide) ?_
        refine lv_icmp_ge (tgt := 44) hx hb dX8_leftOf_16 (by decide) (fun c16 => ?_) (fun c16 => ?_)
        · have hG := f_ip c16 hG
          cases hG
          exact T13 _ _ _ hP hS (lv_sub hl [0] rfl)
        · have hG := f_in c16 hG
          obtain ⟨o19, σl19, hT19, hG⟩ := f_bd hG
          have T19 : ∀ (H : Heap) (locs : List Loc) (ls : Array Slot), f_h E σl19 H → va_S (f_A E) s.heap H locs → lv_has ls 3 [(1, .int o19), (2, .int x13_2)] → W p l e rm_X8_leftOf s m args below meth c H locs 0 0 Q (F0 m 38 ls []) := by
            intro H locs ls hP hS hl
            refine lv_iinc (v := (x13_2 + (1 : Int32))) (lv' := [(2, .int (x13_2 + (1 : Int32))), (1, .int o19)]) hx hb dX8_leftOf_38 hl (k := 1) rfl (by rfl) (by decide) rfl (fun ls hl => ?_)
            refine lv_goto (tgt := 13) hx hb dX8_leftOf_41 (by decide) ?_
            exact ih13 o19 (x13_2 + (1 : Int32)) σl19 _ _ _ hP hS (lv_sub hl [1, 0] rfl) hG
          have L19 : ∀ (n19 : Nat) (x19_1 : Int32) (σh19 : fS) (H : Heap) (locs : List Loc) (ls : Array Slot), f_h E σh19 H → va_S (f_A E) s.heap H locs → lv_has ls 3 [(1, .int x19_1), (2, .int x13_2)] → lp_X8_leftOf_19 N x13_2 n19 x19_1 σh19 = some (o19, σl19) → W p l e rm_X8_leftOf s m args below meth c H locs 0 0 Q (F0 m 19 ls []) := by
            intro n19
            induction n19 with
            | zero =>
              intro x19_1 σh19 H locs ls hP hS hl hG
              rw [lp_X8_leftOf_19] at hG
              cases hG
            | succ n19 ih19 =>
              intro x19_1 σh19 H locs ls hP hS hl hG
              rw [lp_X8_leftOf_19] at hG
              refine lv_iload_n hx hb dX8_leftOf_19 rfl (lv_at hl 0 rfl) ?_
              refine lv_iload_n hx hb dX8_leftOf_20 rfl (lv_at hl 1 rfl) ?_
              obtain ⟨r21, σ21, hC21, hG⟩ := f_bd hG
              refine iv_X8_81 F hS hP (c_X8_primeAt l E N x13_2 σh19 _ _ hC21) ⟨Nat.le_of_ble_eq_true rfl, Nat.le_of_ble_eq_true rfl⟩ hl.1 (Nat.le_of_ble_eq_true rfl) dX8_leftOf_21 ⟨Nat.zero_le _, Nat.zero_le _⟩ (fun H locs hP hS => ?_)
              obtain ⟨h24, hG⟩ := f_gd hG
              refine x_irem F dX8_leftOf_24 (f_nz h24) ?_
              refine lv_if_ne (tgt := 38) hx hb dX8_leftOf_25 (by decide) (fun c25 => ?_) (fun c25 => ?_)
              · have hG := f_in c25 hG
                cases hG
                exact T19 _ _ _ hP hS (lv_sub hl [0, 1] rfl)
              · have hG := f_ip c25 hG
                refine lv_iload_n hx hb dX8_leftOf_28 rfl (lv_at hl 0 rfl) ?_
                refine lv_iload_n hx hb dX8_leftOf_29 rfl (lv_at hl 1 rfl) ?_
                obtain ⟨r30, σ30, hC30, hG⟩ := f_bd hG
                refine iv_X8_81 F hS hP (c_X8_primeAt l E N x13_2 σ21 _ _ hC30) ⟨Nat.le_of_ble_eq_true rfl, Nat.le_of_ble_eq_true rfl⟩ hl.1 (Nat.le_of_ble_eq_true rfl) dX8_leftOf_30 ⟨Nat.zero_le _, Nat.zero_le _⟩ (fun H locs hP hS => ?_)
                obtain ⟨h33, hG⟩ := f_gd hG
                refine lv_idiv hx hb dX8_leftOf_33 (f_nz h33) ?_
                refine lv_topi (fun v34 e34 => ?_)
                have hG := f_lt hG e34
                refine lv_istore_n (lv' := [(1, .int v34), (2, .int x13_2)]) hx hb dX8_leftOf_34 rfl hl (by decide) rfl (fun ls hl => ?_)
                refine lv_goto (tgt := 19) hx hb dX8_leftOf_35 (by decide) ?_
                exact ih19 v34 σ30 _ _ _ hP hS (lv_sub hl [0, 1] rfl) hG
          exact L19 N x13_1 σh13 _ _ _ hP hS (lv_sub hl [0, 1] rfl) hT19
    exact L13 N o1 (1 : Int32) σj1 _ _ _ hP hS (lv_sub hl [1, 0] rfl) hT13
  have hG := hT1
  clear hT1
  refine lv_if_ge (tgt := 9) hx hb dX8_leftOf_1 (by decide) (fun c1 => ?_) (fun c1 => ?_)
  · have hG := f_ip c1 hG
    refine lv_iload_n hx hb dX8_leftOf_9 rfl (lv_at hl 0 rfl) ?_
    cases hG
    exact T1 _ _ _ hP hS (lv_sub hl [] rfl)
  · have hG := f_in c1 hG
    refine lv_iload_n hx hb dX8_leftOf_4 rfl (lv_at hl 0 rfl) ?_
    refine lv_ineg hx hb dX8_leftOf_5 ?_
    refine lv_goto (tgt := 10) hx hb dX8_leftOf_6 (by decide) ?_
    cases hG
    exact T1 _ _ _ hP hS (lv_sub hl [] rfl)
theorem dX8_kindOf_0 : decode cX8_kindOf 0 = .ok (.iload_n 0, 1) := by decide +kernel
theorem dX8_kindOf_1 : decode cX8_kindOf 1 = .ok (.ifCond .ge 7, 3) := by decide +kernel
theorem dX8_kindOf_4 : decode cX8_kindOf 4 = .ok (.iconst 1, 1) := by decide +kernel
theorem dX8_kindOf_5 : decode cX8_kindOf 5 = .ok (.goto 4, 3) := by decide +kernel
theorem dX8_kindOf_8 : decode cX8_kindOf 8 = .ok (.iconst 0, 1) := by decide +kernel
theorem dX8_kindOf_9 : decode cX8_kindOf 9 = .ok (.istore_n 1, 1) := by decide +kernel
theorem dX8_kindOf_10 : decode cX8_kindOf 10 = .ok (.iload_n 0, 1) := by decide +kernel
theorem dX8_kindOf_11 : decode cX8_kindOf 11 = .ok (.ifCond .ge 8, 3) := by decide +kernel
theorem dX8_kindOf_14 : decode cX8_kindOf 14 = .ok (.iload_n 0, 1) := by decide +kernel
theorem dX8_kindOf_15 : decode cX8_kindOf 15 = .ok (.ineg, 1) := by decide +kernel
theorem dX8_kindOf_16 : decode cX8_kindOf 16 = .ok (.goto 4, 3) := by decide +kernel
theorem dX8_kindOf_19 : decode cX8_kindOf 19 = .ok (.iload_n 0, 1) := by decide +kernel
theorem dX8_kindOf_20 : decode cX8_kindOf 20 = .ok (.istore_n 2, 1) := by decide +kernel
theorem dX8_kindOf_21 : decode cX8_kindOf 21 = .ok (.iconst 1, 1) := by decide +kernel
theorem dX8_kindOf_22 : decode cX8_kindOf 22 = .ok (.istore_n 3, 1) := by decide +kernel
theorem dX8_kindOf_23 : decode cX8_kindOf 23 = .ok (.iload_n 3, 1) := by decide +kernel
theorem dX8_kindOf_24 : decode cX8_kindOf 24 = .ok (.bipush 7, 2) := by decide +kernel
theorem dX8_kindOf_26 : decode cX8_kindOf 26 = .ok (.if_icmp .ge 34, 3) := by decide +kernel
theorem dX8_kindOf_29 : decode cX8_kindOf 29 = .ok (.iload_n 2, 1) := by decide +kernel
theorem dX8_kindOf_30 : decode cX8_kindOf 30 = .ok (.iload_n 3, 1) := by decide +kernel
theorem dX8_kindOf_31 : decode cX8_kindOf 31 = .ok (.invokestatic 81, 3) := by decide +kernel
theorem dX8_kindOf_34 : decode cX8_kindOf 34 = .ok (.irem, 1) := by decide +kernel
theorem dX8_kindOf_35 : decode cX8_kindOf 35 = .ok (.ifCond .ne 19, 3) := by decide +kernel
theorem dX8_kindOf_38 : decode cX8_kindOf 38 = .ok (.iload_n 2, 1) := by decide +kernel
theorem dX8_kindOf_39 : decode cX8_kindOf 39 = .ok (.iload_n 3, 1) := by decide +kernel
theorem dX8_kindOf_40 : decode cX8_kindOf 40 = .ok (.invokestatic 81, 3) := by decide +kernel
theorem dX8_kindOf_43 : decode cX8_kindOf 43 = .ok (.idiv, 1) := by decide +kernel
theorem dX8_kindOf_44 : decode cX8_kindOf 44 = .ok (.istore_n 2, 1) := by decide +kernel
theorem dX8_kindOf_45 : decode cX8_kindOf 45 = .ok (.iload_n 1, 1) := by decide +kernel
theorem dX8_kindOf_46 : decode cX8_kindOf 46 = .ok (.iconst 1, 1) := by decide +kernel
theorem dX8_kindOf_47 : decode cX8_kindOf 47 = .ok (.iload_n 3, 1) := by decide +kernel
theorem dX8_kindOf_48 : decode cX8_kindOf 48 = .ok (.ishl, 1) := by decide +kernel
theorem dX8_kindOf_49 : decode cX8_kindOf 49 = .ok (.ixor, 1) := by decide +kernel
theorem dX8_kindOf_50 : decode cX8_kindOf 50 = .ok (.istore_n 1, 1) := by decide +kernel
theorem dX8_kindOf_51 : decode cX8_kindOf 51 = .ok (.goto (-22), 3) := by decide +kernel
theorem dX8_kindOf_54 : decode cX8_kindOf 54 = .ok (.iinc 3 1, 3) := by decide +kernel
theorem dX8_kindOf_57 : decode cX8_kindOf 57 = .ok (.goto (-34), 3) := by decide +kernel
theorem dX8_kindOf_60 : decode cX8_kindOf 60 = .ok (.iload_n 1, 1) := by decide +kernel
theorem dX8_kindOf_61 : decode cX8_kindOf 61 = .ok (.ireturn, 1) := by decide +kernel
set_option maxHeartbeats 4000000 in
set_option maxRecDepth 100000 in
theorem c_X8_kindOf (l : Launch) (E : fEv) (N : Nat) (a0 : Int32) (σ : fS) (r : Int32) (τ : fS) (hG : g_X8_kindOf N a0 σ = some (r, τ)) : fM l E yX8_kindOf (.code yX8_kindOf cX8_kindOf 4 (some .int)) rm_X8_kindOf [.int a0] σ τ (some (.int r)) := by
  refine f_openI (by decide) (Nat.le_of_ble_eq_true rfl) ?_
  intro p e s m below meth c args Q F hR hP ls hl
  have hx := F.1.1
  have hb := F.1.2.1
  have hown := F.1.2.2.2.1
  have hts := F.1.2.2.2.2
  have hS : va_S (f_A E) s.heap s.heap [] := va_S.rf
  skip
  have hl : lv_has ls 4 [(0, .int a0)] := hl
  unfold g_X8_kindOf at hG
  refine lv_iload_n hx hb dX8_kindOf_0 rfl (lv_at hl 0 rfl) ?_
  obtain ⟨o1, σj1, hT1, hG⟩ := f_bd hG
  have T1 : ∀ (H : Heap) (locs : List Loc) (ls : Array Slot), f_h E σj1 H → va_S (f_A E) s.heap H locs → lv_has ls 4 [(0, .int a0)] → W p l e rm_X8_kindOf s m args below meth c H locs 0 0 Q (F0 m 9 ls [.int o1]) := by
    intro H locs ls hP hS hl
    refine lv_istore_n (lv' := [(1, .int o1), (0, .int a0)]) hx hb dX8_kindOf_9 rfl hl (by decide) rfl (fun ls hl => ?_)
    refine lv_iload_n hx hb dX8_kindOf_10 rfl (lv_at hl 1 rfl) ?_
    obtain ⟨o11, σj11, hT11, hG⟩ := f_bd hG
    have T11 : ∀ (H : Heap) (locs : List Loc) (ls : Array Slot), f_h E σj11 H → va_S (f_A E) s.heap H locs → lv_has ls 4 [(1, .int o1)] → W p l e rm_X8_kindOf s m args below meth c H locs 0 0 Q (F0 m 20 ls [.int o11]) := by
      intro H locs ls hP hS hl
      refine lv_istore_n (lv' := [(2, .int o11), (1, .int o1)]) hx hb dX8_kindOf_20 rfl hl (by decide) rfl (fun ls hl => ?_)
      refine lv_iconst (v := 1) hx hb dX8_kindOf_21 (by decide) ?_
      refine lv_istore_n (lv' := [(3, .int (1 : Int32)), (2, .int o11), (1, .int o1)]) hx hb dX8_kindOf_22 rfl hl (by decide) rfl (fun ls hl => ?_)
      obtain ⟨o23, σl23, hT23, hG⟩ := f_bd hG
      have T23 : ∀ (H : Heap) (locs : List Loc) (ls : Array Slot), f_h E σl23 H → va_S (f_A E) s.heap H locs → lv_has ls 4 [(1, .int o23)] → W p l e rm_X8_kindOf s m args below meth c H locs 0 0 Q (F0 m 60 ls []) := by
        intro H locs ls hP hS hl
        refine lv_iload_n hx hb dX8_kindOf_60 rfl (lv_at hl 0 rfl) ?_
        exact x_ri hR hS hP hG dX8_kindOf_61
      have L23 : ∀ (n23 : Nat) (x23_1 : Int32) (x23_2 : Int32) (x23_3 : Int32) (σh23 : fS) (H : Heap) (locs : List Loc) (ls : Array Slot), f_h E σh23 H → va_S (f_A E) s.heap H locs → lv_has ls 4 [(1, .int x23_1), (2, .int x23_2), (3, .int x23_3)] → lp_X8_kindOf_23 N n23 x23_1 x23_2 x23_3 σh23 = some (o23, σl23) → W p l e rm_X8_kindOf s m args below meth c H locs 0 0 Q (F0 m 23 ls []) := by
        intro n23
        induction n23 with
        | zero =>
          intro x23_1 x23_2 x23_3 σh23 H locs ls hP hS hl hG
          rw [lp_X8_kindOf_23] at hG
          cases hG
        | succ n23 ih23 =>
          intro x23_1 x23_2 x23_3 σh23 H locs ls hP hS hl hG
          rw [lp_X8_kindOf_23] at hG
          refine lv_iload_n hx hb dX8_kindOf_23 rfl (lv_at hl 2 rfl) ?_
          refine lv_bipush (v := 7) hx hb dX8_kindOf_24 (by decide) ?_
          refine lv_icmp_ge (tgt := 60) hx hb dX8_kindOf_26 (by decide) (fun c26 => ?_) (fun c26 => ?_)
          · have hG := f_ip c26 hG
            cases hG
            exact T23 _ _ _ hP hS (lv_sub hl [0] rfl)
          · have hG := f_in c26 hG
            obtain ⟨o29, σl29, hT29, hG⟩ := f_bd hG
            have T29 : ∀ (H : Heap) (locs : List Loc) (ls : Array Slot), f_h E σl29 H → va_S (f_A E) s.heap H locs → lv_has ls 4 [(1, .int o29.1), (2, .int o29.2), (3, .int x23_3)] → W p l e rm_X8_kindOf s m args below meth c H locs 0 0 Q (F0 m 54 ls []) := by
              intro H locs ls hP hS hl
              refine lv_iinc (v := (x23_3 + (1 : Int32))) (lv' := [(3, .int (x23_3 + (1 : Int32))), (1, .int o29.1), (2, .int o29.2)]) hx hb dX8_kindOf_54 hl (k := 2) rfl (by rfl) (by decide) rfl (fun ls hl => ?_)
              refine lv_goto (tgt := 23) hx hb dX8_kindOf_57 (by decide) ?_
              exact ih23 o29.1 o29.2 (x23_3 + (1 : Int32)) σl29 _ _ _ hP hS (lv_sub hl [1, 2, 0] rfl) hG
            have L29 : ∀ (n29 : Nat) (x29_1 : Int32) (x29_2 : Int32) (σh29 : fS) (H : Heap) (locs : List Loc) (ls : Array Slot), f_h E σh29 H → va_S (f_A E) s.heap H locs → lv_has ls 4 [(1, .int x29_1), (2, .int x29_2), (3, .int x23_3)] → lp_X8_kindOf_29 N x23_3 n29 x29_1 x29_2 σh29 = some (o29, σl29) → W p l e rm_X8_kindOf s m args below meth c H locs 0 0 Q (F0 m 29 ls []) := by
              intro n29
              induction n29 with
              | zero =>
                intro x29_1 x29_2 σh29 H locs ls hP hS hl hG
                rw [lp_X8_kindOf_29] at hG
                cases hG
              | succ n29 ih29 =>
                intro x29_1 x29_2 σh29 H locs ls hP hS hl hG
                rw [lp_X8_kindOf_29] at hG
                refine lv_iload_n hx hb dX8_kindOf_29 rfl (lv_at hl 1 rfl) ?_
                refine lv_iload_n hx hb dX8_kindOf_30 rfl (lv_at hl 2 rfl) ?_
                obtain ⟨r31, σ31, hC31, hG⟩ := f_bd hG
                refine iv_X8_81 F hS hP (c_X8_primeAt l E N x23_3 σh29 _ _ hC31) ⟨Nat.le_of_ble_eq_true rfl, Nat.le_of_ble_eq_true rfl⟩ hl.1 (Nat.le_of_ble_eq_true rfl) dX8_kindOf_31 ⟨Nat.zero_le _, Nat.zero_le _⟩ (fun H locs hP hS => ?_)
                obtain ⟨h34, hG⟩ := f_gd hG
                refine x_irem F dX8_kindOf_34 (f_nz h34) ?_
                refine lv_if_ne (tgt := 54) hx hb dX8_kindOf_35 (by decide) (fun c35 => ?_) (fun c35 => ?_)
                · have hG := f_in c35 hG
                  cases hG
                  exact T29 _ _ _ hP hS (lv_sub hl [0, 1, 2] rfl)
                · have hG := f_ip c35 hG
                  refine lv_iload_n hx hb dX8_kindOf_38 rfl (lv_at hl 1 rfl) ?_
                  refine lv_iload_n hx hb dX8_kindOf_39 rfl (lv_at hl 2 rfl) ?_
                  obtain ⟨r40, σ40, hC40, hG⟩ := f_bd hG
                  refine iv_X8_81 F hS hP (c_X8_primeAt l E N x23_3 σ31 _ _ hC40) ⟨Nat.le_of_ble_eq_true rfl, Nat.le_of_ble_eq_true rfl⟩ hl.1 (Nat.le_of_ble_eq_true rfl) dX8_kindOf_40 ⟨Nat.zero_le _, Nat.zero_le _⟩ (fun H locs hP hS => ?_)
                  obtain ⟨h43, hG⟩ := f_gd hG
                  refine lv_idiv hx hb dX8_kindOf_43 (f_nz h43) ?_
                  refine lv_topi (fun v44 e44 => ?_)
                  have hG := f_lt hG e44
                  refine lv_istore_n (lv' := [(2, .int v44), (1, .int x29_1), (3, .int x23_3)]) hx hb dX8_kindOf_44 rfl hl (by decide) rfl (fun ls hl => ?_)
                  refine lv_iload_n hx hb dX8_kindOf_45 rfl (lv_at hl 1 rfl) ?_
                  refine lv_iconst (v := 1) hx hb dX8_kindOf_46 (by decide) ?_
                  refine lv_iload_n hx hb dX8_kindOf_47 rfl (lv_at hl 2 rfl) ?_
                  refine lv_ishl hx hb dX8_kindOf_48 ?_
                  refine lv_ixor hx hb dX8_kindOf_49 ?_
                  refine lv_topi (fun v50 e50 => ?_)
                  have hG := f_lt hG e50
                  refine lv_istore_n (lv' := [(1, .int v50), (2, .int v44), (3, .int x23_3)]) hx hb dX8_kindOf_50 rfl hl (by decide) rfl (fun ls hl => ?_)
                  refine lv_goto (tgt := 29) hx hb dX8_kindOf_51 (by decide) ?_
                  exact ih29 v50 v44 σ40 _ _ _ hP hS (lv_sub hl [0, 1, 2] rfl) hG
            exact L29 N x23_1 x23_2 σh23 _ _ _ hP hS (lv_sub hl [0, 1, 2] rfl) hT29
      exact L23 N o1 o11 (1 : Int32) σj11 _ _ _ hP hS (lv_sub hl [2, 1, 0] rfl) hT23
    have hG := hT11
    clear hT11
    refine lv_if_ge (tgt := 19) hx hb dX8_kindOf_11 (by decide) (fun c11 => ?_) (fun c11 => ?_)
    · have hG := f_ip c11 hG
      refine lv_iload_n hx hb dX8_kindOf_19 rfl (lv_at hl 1 rfl) ?_
      cases hG
      exact T11 _ _ _ hP hS (lv_sub hl [0] rfl)
    · have hG := f_in c11 hG
      refine lv_iload_n hx hb dX8_kindOf_14 rfl (lv_at hl 1 rfl) ?_
      refine lv_ineg hx hb dX8_kindOf_15 ?_
      refine lv_goto (tgt := 20) hx hb dX8_kindOf_16 (by decide) ?_
      cases hG
      exact T11 _ _ _ hP hS (lv_sub hl [0] rfl)
  have hG := hT1
  clear hT1
  refine lv_if_ge (tgt := 8) hx hb dX8_kindOf_1 (by decide) (fun c1 => ?_) (fun c1 => ?_)
  · have hG := f_ip c1 hG
    refine lv_iconst (v := 0) hx hb dX8_kindOf_8 (by decide) ?_
    cases hG
    exact T1 _ _ _ hP hS (lv_sub hl [0] rfl)
  · have hG := f_in c1 hG
    refine lv_iconst (v := 1) hx hb dX8_kindOf_4 (by decide) ?_
    refine lv_goto (tgt := 9) hx hb dX8_kindOf_5 (by decide) ?_
    cases hG
    exact T1 _ _ _ hP hS (lv_sub hl [0] rfl)
theorem dX8_isNumber_0 : decode cX8_isNumber 0 = .ok (.iload_n 0, 1) := by decide +kernel
theorem dX8_isNumber_1 : decode cX8_isNumber 1 = .ok (.bipush (-99), 2) := by decide +kernel
theorem dX8_isNumber_3 : decode cX8_isNumber 3 = .ok (.bipush 99, 2) := by decide +kernel
theorem dX8_isNumber_5 : decode cX8_isNumber 5 = .ok (.invokestatic 89, 3) := by decide +kernel
theorem dX8_isNumber_8 : decode cX8_isNumber 8 = .ok (.ifCond .eq 19, 3) := by decide +kernel
theorem dX8_isNumber_11 : decode cX8_isNumber 11 = .ok (.iload_n 0, 1) := by decide +kernel
theorem dX8_isNumber_12 : decode cX8_isNumber 12 = .ok (.ifCond .eq 15, 3) := by decide +kernel
theorem dX8_isNumber_15 : decode cX8_isNumber 15 = .ok (.iload_n 0, 1) := by decide +kernel
theorem dX8_isNumber_16 : decode cX8_isNumber 16 = .ok (.invokestatic 93, 3) := by decide +kernel
theorem dX8_isNumber_19 : decode cX8_isNumber 19 = .ok (.iconst 1, 1) := by decide +kernel
theorem dX8_isNumber_20 : decode cX8_isNumber 20 = .ok (.if_icmp .ne 7, 3) := by decide +kernel
theorem dX8_isNumber_23 : decode cX8_isNumber 23 = .ok (.iconst 1, 1) := by decide +kernel
theorem dX8_isNumber_24 : decode cX8_isNumber 24 = .ok (.goto 4, 3) := by decide +kernel
theorem dX8_isNumber_27 : decode cX8_isNumber 27 = .ok (.iconst 0, 1) := by decide +kernel
theorem dX8_isNumber_28 : decode cX8_isNumber 28 = .ok (.ireturn, 1) := by decide +kernel
set_option maxHeartbeats 4000000 in
set_option maxRecDepth 100000 in
theorem c_X8_isNumber (l : Launch) (E : fEv) (N : Nat) (a0 : Int32) (σ : fS) (r : Int32) (τ : fS) (hG : g_X8_isNumber N a0 σ = some (r, τ)) : fM l E yX8_isNumber (.code yX8_isNumber cX8_isNumber 1 (some .boolean)) rm_X8_isNumber [.int a0] σ τ (some (.int r)) := by
  refine f_openZ (by decide) (Nat.le_of_ble_eq_true rfl) ?_
  intro p e s m below meth c args Q F hR hP ls hl
  have hx := F.1.1
  have hb := F.1.2.1
  have hown := F.1.2.2.2.1
  have hts := F.1.2.2.2.2
  have hS : va_S (f_A E) s.heap s.heap [] := va_S.rf
  skip
  have hl : lv_has ls 1 [(0, .int a0)] := hl
  unfold g_X8_isNumber at hG
  refine lv_iload_n hx hb dX8_isNumber_0 rfl (lv_at hl 0 rfl) ?_
  refine lv_bipush (v := -99) hx hb dX8_isNumber_1 (by decide) ?_
  refine lv_bipush (v := 99) hx hb dX8_isNumber_3 (by decide) ?_
  obtain ⟨r5, σ5, hC5, hG⟩ := f_bd hG
  refine iv_X8_89 F hS hP (c_X8_within l E N a0 (-99 : Int32) (99 : Int32) σ _ _ hC5) ⟨Nat.le_of_ble_eq_true rfl, Nat.le_of_ble_eq_true rfl⟩ hl.1 (Nat.le_of_ble_eq_true rfl) dX8_isNumber_5 ⟨Nat.zero_le _, Nat.zero_le _⟩ (fun H locs hP hS => ?_)
  refine lv_if_eq (tgt := 27) hx hb dX8_isNumber_8 (by decide) (fun c8 => ?_) (fun c8 => ?_)
  · have hG := f_ip c8 hG
    refine lv_iconst (v := 0) hx hb dX8_isNumber_27 (by decide) ?_
    exact x_rz hR hS hP (Or.inl rfl) hG dX8_isNumber_28
  · have hG := f_in c8 hG
    refine lv_iload_n hx hb dX8_isNumber_11 rfl (lv_at hl 0 rfl) ?_
    refine lv_if_eq (tgt := 27) hx hb dX8_isNumber_12 (by decide) (fun c12 => ?_) (fun c12 => ?_)
    · have hG := f_ip c12 hG
      refine lv_iconst (v := 0) hx hb dX8_isNumber_27 (by decide) ?_
      exact x_rz hR hS hP (Or.inl rfl) hG dX8_isNumber_28
    · have hG := f_in c12 hG
      refine lv_iload_n hx hb dX8_isNumber_15 rfl (lv_at hl 0 rfl) ?_
      obtain ⟨r16, σ16, hC16, hG⟩ := f_bd hG
      refine iv_X8_93 F hS hP (c_X8_leftOf l E N a0 σ5 _ _ hC16) ⟨Nat.le_of_ble_eq_true rfl, Nat.le_of_ble_eq_true rfl⟩ hl.1 (Nat.le_of_ble_eq_true rfl) dX8_isNumber_16 ⟨Nat.zero_le _, Nat.zero_le _⟩ (fun H locs hP hS => ?_)
      refine lv_iconst (v := 1) hx hb dX8_isNumber_19 (by decide) ?_
      refine lv_icmp_ne (tgt := 27) hx hb dX8_isNumber_20 (by decide) (fun c20 => ?_) (fun c20 => ?_)
      · have hG := f_in c20 hG
        refine lv_iconst (v := 0) hx hb dX8_isNumber_27 (by decide) ?_
        exact x_rz hR hS hP (Or.inl rfl) hG dX8_isNumber_28
      · have hG := f_ip c20 hG
        refine lv_iconst (v := 1) hx hb dX8_isNumber_23 (by decide) ?_
        refine lv_goto (tgt := 28) hx hb dX8_isNumber_24 (by decide) ?_
        exact x_rz hR hS hP (Or.inr rfl) hG dX8_isNumber_28
theorem dX8_isKind_0 : decode cX8_isKind 0 = .ok (.iload_n 0, 1) := by decide +kernel
theorem dX8_isKind_1 : decode cX8_isKind 1 = .ok (.iconst 0, 1) := by decide +kernel
theorem dX8_isKind_2 : decode cX8_isKind 2 = .ok (.bipush 127, 2) := by decide +kernel
theorem dX8_isKind_4 : decode cX8_isKind 4 = .ok (.invokestatic 89, 3) := by decide +kernel
theorem dX8_isKind_7 : decode cX8_isKind 7 = .ok (.ireturn, 1) := by decide +kernel
set_option maxHeartbeats 4000000 in
set_option maxRecDepth 100000 in
theorem c_X8_isKind (l : Launch) (E : fEv) (N : Nat) (a0 : Int32) (σ : fS) (r : Int32) (τ : fS) (hG : g_X8_isKind N a0 σ = some (r, τ)) : fM l E yX8_isKind (.code yX8_isKind cX8_isKind 1 (some .boolean)) rm_X8_isKind [.int a0] σ τ (some (.int r)) := by
  refine f_openZ (by decide) (Nat.le_of_ble_eq_true rfl) ?_
  intro p e s m below meth c args Q F hR hP ls hl
  have hx := F.1.1
  have hb := F.1.2.1
  have hown := F.1.2.2.2.1
  have hts := F.1.2.2.2.2
  have hS : va_S (f_A E) s.heap s.heap [] := va_S.rf
  skip
  have hl : lv_has ls 1 [(0, .int a0)] := hl
  unfold g_X8_isKind at hG
  refine lv_iload_n hx hb dX8_isKind_0 rfl (lv_at hl 0 rfl) ?_
  refine lv_iconst (v := 0) hx hb dX8_isKind_1 (by decide) ?_
  refine lv_bipush (v := 127) hx hb dX8_isKind_2 (by decide) ?_
  obtain ⟨r4, σ4, hC4, hG⟩ := f_bd hG
  refine iv_X8_89 F hS hP (c_X8_within l E N a0 (0 : Int32) (127 : Int32) σ _ _ hC4) ⟨Nat.le_of_ble_eq_true rfl, Nat.le_of_ble_eq_true rfl⟩ hl.1 (Nat.le_of_ble_eq_true rfl) dX8_isKind_4 ⟨Nat.zero_le _, Nat.zero_le _⟩ (fun H locs hP hS => ?_)
  obtain ⟨h7, hG⟩ := f_gd hG
  exact x_rz hR hS hP (f_isB h7) hG dX8_isKind_7
theorem dX8_isPlace_0 : decode cX8_isPlace 0 = .ok (.iload_n 0, 1) := by decide +kernel
theorem dX8_isPlace_1 : decode cX8_isPlace 1 = .ok (.iconst 0, 1) := by decide +kernel
theorem dX8_isPlace_2 : decode cX8_isPlace 2 = .ok (.bipush 6, 2) := by decide +kernel
theorem dX8_isPlace_4 : decode cX8_isPlace 4 = .ok (.invokestatic 89, 3) := by decide +kernel
theorem dX8_isPlace_7 : decode cX8_isPlace 7 = .ok (.ireturn, 1) := by decide +kernel
set_option maxHeartbeats 4000000 in
set_option maxRecDepth 100000 in
theorem c_X8_isPlace (l : Launch) (E : fEv) (N : Nat) (a0 : Int32) (σ : fS) (r : Int32) (τ : fS) (hG : g_X8_isPlace N a0 σ = some (r, τ)) : fM l E yX8_isPlace (.code yX8_isPlace cX8_isPlace 1 (some .boolean)) rm_X8_isPlace [.int a0] σ τ (some (.int r)) := by
  refine f_openZ (by decide) (Nat.le_of_ble_eq_true rfl) ?_
  intro p e s m below meth c args Q F hR hP ls hl
  have hx := F.1.1
  have hb := F.1.2.1
  have hown := F.1.2.2.2.1
  have hts := F.1.2.2.2.2
  have hS : va_S (f_A E) s.heap s.heap [] := va_S.rf
  skip
  have hl : lv_has ls 1 [(0, .int a0)] := hl
  unfold g_X8_isPlace at hG
  refine lv_iload_n hx hb dX8_isPlace_0 rfl (lv_at hl 0 rfl) ?_
  refine lv_iconst (v := 0) hx hb dX8_isPlace_1 (by decide) ?_
  refine lv_bipush (v := 6) hx hb dX8_isPlace_2 (by decide) ?_
  obtain ⟨r4, σ4, hC4, hG⟩ := f_bd hG
  refine iv_X8_89 F hS hP (c_X8_within l E N a0 (0 : Int32) (6 : Int32) σ _ _ hC4) ⟨Nat.le_of_ble_eq_true rfl, Nat.le_of_ble_eq_true rfl⟩ hl.1 (Nat.le_of_ble_eq_true rfl) dX8_isPlace_4 ⟨Nat.zero_le _, Nat.zero_le _⟩ (fun H locs hP hS => ?_)
  obtain ⟨h7, hG⟩ := f_gd hG
  exact x_rz hR hS hP (f_isB h7) hG dX8_isPlace_7
theorem dX8_isSquare_0 : decode cX8_isSquare 0 = .ok (.iload_n 0, 1) := by decide +kernel
theorem dX8_isSquare_1 : decode cX8_isSquare 1 = .ok (.invokestatic 96, 3) := by decide +kernel
theorem dX8_isSquare_4 : decode cX8_isSquare 4 = .ok (.istore_n 2, 1) := by decide +kernel
theorem dX8_isSquare_5 : decode cX8_isSquare 5 = .ok (.iload_n 1, 1) := by decide +kernel
theorem dX8_isSquare_6 : decode cX8_isSquare 6 = .ok (.ifCond .ne 13, 3) := by decide +kernel
theorem dX8_isSquare_9 : decode cX8_isSquare 9 = .ok (.iload_n 2, 1) := by decide +kernel
theorem dX8_isSquare_10 : decode cX8_isSquare 10 = .ok (.ifCond .le 7, 3) := by decide +kernel
theorem dX8_isSquare_13 : decode cX8_isSquare 13 = .ok (.iconst 1, 1) := by decide +kernel
theorem dX8_isSquare_14 : decode cX8_isSquare 14 = .ok (.goto 4, 3) := by decide +kernel
theorem dX8_isSquare_17 : decode cX8_isSquare 17 = .ok (.iconst 0, 1) := by decide +kernel
theorem dX8_isSquare_18 : decode cX8_isSquare 18 = .ok (.ireturn, 1) := by decide +kernel
theorem dX8_isSquare_19 : decode cX8_isSquare 19 = .ok (.iload_n 1, 1) := by decide +kernel
theorem dX8_isSquare_20 : decode cX8_isSquare 20 = .ok (.invokestatic 99, 3) := by decide +kernel
theorem dX8_isSquare_23 : decode cX8_isSquare 23 = .ok (.istore_n 3, 1) := by decide +kernel
theorem dX8_isSquare_24 : decode cX8_isSquare 24 = .ok (.iconst 0, 1) := by decide +kernel
theorem dX8_isSquare_25 : decode cX8_isSquare 25 = .ok (.istore 4, 2) := by decide +kernel
theorem dX8_isSquare_27 : decode cX8_isSquare 27 = .ok (.iconst 0, 1) := by decide +kernel
theorem dX8_isSquare_28 : decode cX8_isSquare 28 = .ok (.istore 5, 2) := by decide +kernel
theorem dX8_isSquare_30 : decode cX8_isSquare 30 = .ok (.iload 5, 2) := by decide +kernel
theorem dX8_isSquare_32 : decode cX8_isSquare 32 = .ok (.iload_n 3, 1) := by decide +kernel
theorem dX8_isSquare_33 : decode cX8_isSquare 33 = .ok (.if_icmp .ge 43, 3) := by decide +kernel
theorem dX8_isSquare_36 : decode cX8_isSquare 36 = .ok (.iload 4, 2) := by decide +kernel
theorem dX8_isSquare_38 : decode cX8_isSquare 38 = .ok (.ifCond .ne 25, 3) := by decide +kernel
theorem dX8_isSquare_41 : decode cX8_isSquare 41 = .ok (.iload 5, 2) := by decide +kernel
theorem dX8_isSquare_43 : decode cX8_isSquare 43 = .ok (.iload_n 1, 1) := by decide +kernel
theorem dX8_isSquare_44 : decode cX8_isSquare 44 = .ok (.invokestatic 81, 3) := by decide +kernel
theorem dX8_isSquare_47 : decode cX8_isSquare 47 = .ok (.irem, 1) := by decide +kernel
theorem dX8_isSquare_48 : decode cX8_isSquare 48 = .ok (.ifCond .eq 19, 3) := by decide +kernel
theorem dX8_isSquare_51 : decode cX8_isSquare 51 = .ok (.iload 5, 2) := by decide +kernel
theorem dX8_isSquare_53 : decode cX8_isSquare 53 = .ok (.iload 5, 2) := by decide +kernel
theorem dX8_isSquare_55 : decode cX8_isSquare 55 = .ok (.imul, 1) := by decide +kernel
theorem dX8_isSquare_56 : decode cX8_isSquare 56 = .ok (.iload_n 2, 1) := by decide +kernel
theorem dX8_isSquare_57 : decode cX8_isSquare 57 = .ok (.isub, 1) := by decide +kernel
theorem dX8_isSquare_58 : decode cX8_isSquare 58 = .ok (.iload_n 3, 1) := by decide +kernel
theorem dX8_isSquare_59 : decode cX8_isSquare 59 = .ok (.irem, 1) := by decide +kernel
theorem dX8_isSquare_60 : decode cX8_isSquare 60 = .ok (.ifCond .ne 7, 3) := by decide +kernel
theorem dX8_isSquare_63 : decode cX8_isSquare 63 = .ok (.iconst 1, 1) := by decide +kernel
theorem dX8_isSquare_64 : decode cX8_isSquare 64 = .ok (.goto 4, 3) := by decide +kernel
theorem dX8_isSquare_67 : decode cX8_isSquare 67 = .ok (.iconst 0, 1) := by decide +kernel
theorem dX8_isSquare_68 : decode cX8_isSquare 68 = .ok (.istore 4, 2) := by decide +kernel
theorem dX8_isSquare_70 : decode cX8_isSquare 70 = .ok (.iinc 5 1, 3) := by decide +kernel
theorem dX8_isSquare_73 : decode cX8_isSquare 73 = .ok (.goto (-43), 3) := by decide +kernel
theorem dX8_isSquare_76 : decode cX8_isSquare 76 = .ok (.iload 4, 2) := by decide +kernel
theorem dX8_isSquare_78 : decode cX8_isSquare 78 = .ok (.ireturn, 1) := by decide +kernel
set_option maxHeartbeats 4000000 in
set_option maxRecDepth 100000 in
theorem c_X8_isSquare (l : Launch) (E : fEv) (N : Nat) (a0 : Int32) (a1 : Int32) (σ : fS) (r : Int32) (τ : fS) (hG : g_X8_isSquare N a0 a1 σ = some (r, τ)) : fM l E yX8_isSquare (.code yX8_isSquare cX8_isSquare 6 (some .boolean)) rm_X8_isSquare [.int a0, .int a1] σ τ (some (.int r)) := by
  refine f_openZ (by decide) (Nat.le_of_ble_eq_true rfl) ?_
  intro p e s m below meth c args Q F hR hP ls hl
  have hx := F.1.1
  have hb := F.1.2.1
  have hown := F.1.2.2.2.1
  have hts := F.1.2.2.2.2
  have hS : va_S (f_A E) s.heap s.heap [] := va_S.rf
  skip
  have hl : lv_has ls 6 [(0, .int a0), (1, .int a1)] := hl
  unfold g_X8_isSquare at hG
  refine lv_iload_n hx hb dX8_isSquare_0 rfl (lv_at hl 0 rfl) ?_
  obtain ⟨r1, σ1, hC1, hG⟩ := f_bd hG
  refine iv_X8_96 F hS hP (c_X8_coreOf l E N a0 σ _ _ hC1) ⟨Nat.le_of_ble_eq_true rfl, Nat.le_of_ble_eq_true rfl⟩ hl.1 (Nat.le_of_ble_eq_true rfl) dX8_isSquare_1 ⟨Nat.zero_le _, Nat.zero_le _⟩ (fun H locs hP hS => ?_)
  refine lv_istore_n (lv' := [(2, .int r1), (0, .int a0), (1, .int a1)]) hx hb dX8_isSquare_4 rfl hl (by decide) rfl (fun ls hl => ?_)
  refine lv_iload_n hx hb dX8_isSquare_5 rfl (lv_at hl 2 rfl) ?_
  refine lv_if_ne (tgt := 19) hx hb dX8_isSquare_6 (by decide) (fun c6 => ?_) (fun c6 => ?_)
  · have hG := f_in c6 hG
    refine lv_iload_n hx hb dX8_isSquare_19 rfl (lv_at hl 2 rfl) ?_
    obtain ⟨r20, σ20, hC20, hG⟩ := f_bd hG
    refine iv_X8_99 F hS hP (c_X8_modAt l E N a1 σ1 _ _ hC20) ⟨Nat.le_of_ble_eq_true rfl, Nat.le_of_ble_eq_true rfl⟩ hl.1 (Nat.le_of_ble_eq_true rfl) dX8_isSquare_20 ⟨Nat.zero_le _, Nat.zero_le _⟩ (fun H locs hP hS => ?_)
    refine lv_istore_n (lv' := [(3, .int r20), (2, .int r1), (0, .int a0), (1, .int a1)]) hx hb dX8_isSquare_23 rfl hl (by decide) rfl (fun ls hl => ?_)
    refine lv_iconst (v := 0) hx hb dX8_isSquare_24 (by decide) ?_
    refine lv_istore (lv' := [(4, .int (0 : Int32)), (3, .int r20), (2, .int r1), (0, .int a0), (1, .int a1)]) hx hb dX8_isSquare_25 hl (by decide) rfl (fun ls hl => ?_)
    refine lv_iconst (v := 0) hx hb dX8_isSquare_27 (by decide) ?_
    refine lv_istore (lv' := [(5, .int (0 : Int32)), (4, .int (0 : Int32)), (3, .int r20), (2, .int r1), (0, .int a0), (1, .int a1)]) hx hb dX8_isSquare_28 hl (by decide) rfl (fun ls hl => ?_)
    obtain ⟨o30, σl30, hT30, hG⟩ := f_bd hG
    have T30 : ∀ (H : Heap) (locs : List Loc) (ls : Array Slot), f_h E σl30 H → va_S (f_A E) s.heap H locs → lv_has ls 6 [(4, .int o30)] → W p l e rm_X8_isSquare s m args below meth c H locs 0 0 Q (F0 m 76 ls []) := by
      intro H locs ls hP hS hl
      refine lv_iload hx hb dX8_isSquare_76 (lv_at hl 0 rfl) ?_
      obtain ⟨h78, hG⟩ := f_gd hG
      exact x_rz hR hS hP (f_isB h78) hG dX8_isSquare_78
    have L30 : ∀ (n30 : Nat) (x30_4 : Int32) (x30_5 : Int32) (σh30 : fS) (H : Heap) (locs : List Loc) (ls : Array Slot), f_h E σh30 H → va_S (f_A E) s.heap H locs → lv_has ls 6 [(1, .int a1), (2, .int r1), (3, .int r20), (4, .int x30_4), (5, .int x30_5)] → lp_X8_isSquare_30 N a1 r1 r20 n30 x30_4 x30_5 σh30 = some (o30, σl30) → W p l e rm_X8_isSquare s m args below meth c H locs 0 0 Q (F0 m 30 ls []) := by
      intro n30
      induction n30 with
      | zero =>
        intro x30_4 x30_5 σh30 H locs ls hP hS hl hG
        rw [lp_X8_isSquare_30] at hG
        cases hG
      | succ n30 ih30 =>
        intro x30_4 x30_5 σh30 H locs ls hP hS hl hG
        rw [lp_X8_isSquare_30] at hG
        refine lv_iload hx hb dX8_isSquare_30 (lv_at hl 4 rfl) ?_
        refine lv_iload_n hx hb dX8_isSquare_32 rfl (lv_at hl 2 rfl) ?_
        refine lv_icmp_ge (tgt := 76) hx hb dX8_isSquare_33 (by decide) (fun c33 => ?_) (fun c33 => ?_)
        · have hG := f_ip c33 hG
          cases hG
          exact T30 _ _ _ hP hS (lv_sub hl [3] rfl)
        · have hG := f_in c33 hG
          refine lv_iload hx hb dX8_isSquare_36 (lv_at hl 3 rfl) ?_
          refine lv_if_ne (tgt := 63) hx hb dX8_isSquare_38 (by decide) (fun c38 => ?_) (fun c38 => ?_)
          · have hG := f_in c38 hG
            refine lv_iconst (v := 1) hx hb dX8_isSquare_63 (by decide) ?_
            refine lv_goto (tgt := 68) hx hb dX8_isSquare_64 (by decide) ?_
            refine lv_istore (lv' := [(4, .int (1 : Int32)), (1, .int a1), (2, .int r1), (3, .int r20), (5, .int x30_5)]) hx hb dX8_isSquare_68 hl (by decide) rfl (fun ls hl => ?_)
            refine lv_iinc (v := (x30_5 + (1 : Int32))) (lv' := [(5, .int (x30_5 + (1 : Int32))), (4, .int (1 : Int32)), (1, .int a1), (2, .int r1), (3, .int r20)]) hx hb dX8_isSquare_70 hl (k := 4) rfl (by rfl) (by decide) rfl (fun ls hl => ?_)
            refine lv_goto (tgt := 30) hx hb dX8_isSquare_73 (by decide) ?_
            exact ih30 (1 : Int32) (x30_5 + (1 : Int32)) σh30 _ _ _ hP hS (lv_sub hl [2, 3, 4, 1, 0] rfl) hG
          · have hG := f_ip c38 hG
            refine lv_iload hx hb dX8_isSquare_41 (lv_at hl 4 rfl) ?_
            refine lv_iload_n hx hb dX8_isSquare_43 rfl (lv_at hl 0 rfl) ?_
            obtain ⟨r44, σ44, hC44, hG⟩ := f_bd hG
            refine iv_X8_81 F hS hP (c_X8_primeAt l E N a1 σh30 _ _ hC44) ⟨Nat.le_of_ble_eq_true rfl, Nat.le_of_ble_eq_true rfl⟩ hl.1 (Nat.le_of_ble_eq_true rfl) dX8_isSquare_44 ⟨Nat.zero_le _, Nat.zero_le _⟩ (fun H locs hP hS => ?_)
            obtain ⟨h47, hG⟩ := f_gd hG
            refine x_irem F dX8_isSquare_47 (f_nz h47) ?_
            refine lv_if_eq (tgt := 67) hx hb dX8_isSquare_48 (by decide) (fun c48 => ?_) (fun c48 => ?_)
            · have hG := f_ip c48 hG
              refine lv_iconst (v := 0) hx hb dX8_isSquare_67 (by decide) ?_
              refine lv_istore (lv' := [(4, .int (0 : Int32)), (1, .int a1), (2, .int r1), (3, .int r20), (5, .int x30_5)]) hx hb dX8_isSquare_68 hl (by decide) rfl (fun ls hl => ?_)
              refine lv_iinc (v := (x30_5 + (1 : Int32))) (lv' := [(5, .int (x30_5 + (1 : Int32))), (4, .int (0 : Int32)), (1, .int a1), (2, .int r1), (3, .int r20)]) hx hb dX8_isSquare_70 hl (k := 4) rfl (by rfl) (by decide) rfl (fun ls hl => ?_)
              refine lv_goto (tgt := 30) hx hb dX8_isSquare_73 (by decide) ?_
              exact ih30 (0 : Int32) (x30_5 + (1 : Int32)) σ44 _ _ _ hP hS (lv_sub hl [2, 3, 4, 1, 0] rfl) hG
            · have hG := f_in c48 hG
              refine lv_iload hx hb dX8_isSquare_51 (lv_at hl 4 rfl) ?_
              refine lv_iload hx hb dX8_isSquare_53 (lv_at hl 4 rfl) ?_
              refine lv_imul hx hb dX8_isSquare_55 ?_
              refine lv_iload_n hx hb dX8_isSquare_56 rfl (lv_at hl 1 rfl) ?_
              refine lv_isub hx hb dX8_isSquare_57 ?_
              refine lv_iload_n hx hb dX8_isSquare_58 rfl (lv_at hl 2 rfl) ?_
              obtain ⟨h59, hG⟩ := f_gd hG
              refine x_irem F dX8_isSquare_59 (f_nz h59) ?_
              refine lv_if_ne (tgt := 67) hx hb dX8_isSquare_60 (by decide) (fun c60 => ?_) (fun c60 => ?_)
              · have hG := f_in c60 hG
                refine lv_iconst (v := 0) hx hb dX8_isSquare_67 (by decide) ?_
                refine lv_istore (lv' := [(4, .int (0 : Int32)), (1, .int a1), (2, .int r1), (3, .int r20), (5, .int x30_5)]) hx hb dX8_isSquare_68 hl (by decide) rfl (fun ls hl => ?_)
                refine lv_iinc (v := (x30_5 + (1 : Int32))) (lv' := [(5, .int (x30_5 + (1 : Int32))), (4, .int (0 : Int32)), (1, .int a1), (2, .int r1), (3, .int r20)]) hx hb dX8_isSquare_70 hl (k := 4) rfl (by rfl) (by decide) rfl (fun ls hl => ?_)
                refine lv_goto (tgt := 30) hx hb dX8_isSquare_73 (by decide) ?_
                exact ih30 (0 : Int32) (x30_5 + (1 : Int32)) σ44 _ _ _ hP hS (lv_sub hl [2, 3, 4, 1, 0] rfl) hG
              · have hG := f_ip c60 hG
                refine lv_iconst (v := 1) hx hb dX8_isSquare_63 (by decide) ?_
                refine lv_goto (tgt := 68) hx hb dX8_isSquare_64 (by decide) ?_
                refine lv_istore (lv' := [(4, .int (1 : Int32)), (1, .int a1), (2, .int r1), (3, .int r20), (5, .int x30_5)]) hx hb dX8_isSquare_68 hl (by decide) rfl (fun ls hl => ?_)
                refine lv_iinc (v := (x30_5 + (1 : Int32))) (lv' := [(5, .int (x30_5 + (1 : Int32))), (4, .int (1 : Int32)), (1, .int a1), (2, .int r1), (3, .int r20)]) hx hb dX8_isSquare_70 hl (k := 4) rfl (by rfl) (by decide) rfl (fun ls hl => ?_)
                refine lv_goto (tgt := 30) hx hb dX8_isSquare_73 (by decide) ?_
                exact ih30 (1 : Int32) (x30_5 + (1 : Int32)) σ44 _ _ _ hP hS (lv_sub hl [2, 3, 4, 1, 0] rfl) hG
    exact L30 N (0 : Int32) (0 : Int32) σ20 _ _ _ hP hS (lv_sub hl [5, 3, 2, 1, 0] rfl) hT30
  · have hG := f_ip c6 hG
    refine lv_iload_n hx hb dX8_isSquare_9 rfl (lv_at hl 0 rfl) ?_
    refine lv_if_le (tgt := 17) hx hb dX8_isSquare_10 (by decide) (fun c10 => ?_) (fun c10 => ?_)
    · have hG := f_ip c10 hG
      refine lv_iconst (v := 0) hx hb dX8_isSquare_17 (by decide) ?_
      exact x_rz hR hS hP (Or.inl rfl) hG dX8_isSquare_18
    · have hG := f_in c10 hG
      refine lv_iconst (v := 1) hx hb dX8_isSquare_13 (by decide) ?_
      refine lv_goto (tgt := 18) hx hb dX8_isSquare_14 (by decide) ?_
      exact x_rz hR hS hP (Or.inr rfl) hG dX8_isSquare_18
theorem dX8_addRests_0 : decode cX8_addRests 0 = .ok (.iconst 0, 1) := by decide +kernel
theorem dX8_addRests_1 : decode cX8_addRests 1 = .ok (.istore 5, 2) := by decide +kernel
theorem dX8_addRests_3 : decode cX8_addRests 3 = .ok (.iload 5, 2) := by decide +kernel
theorem dX8_addRests_5 : decode cX8_addRests 5 = .ok (.iload_n 3, 1) := by decide +kernel
theorem dX8_addRests_6 : decode cX8_addRests 6 = .ok (.iconst 2, 1) := by decide +kernel
theorem dX8_addRests_7 : decode cX8_addRests 7 = .ok (.idiv, 1) := by decide +kernel
theorem dX8_addRests_8 : decode cX8_addRests 8 = .ok (.if_icmp .gt 120, 3) := by decide +kernel
theorem dX8_addRests_11 : decode cX8_addRests 11 = .ok (.iload_n 1, 1) := by decide +kernel
theorem dX8_addRests_12 : decode cX8_addRests 12 = .ok (.iload_n 2, 1) := by decide +kernel
theorem dX8_addRests_13 : decode cX8_addRests 13 = .ok (.iload 5, 2) := by decide +kernel
theorem dX8_addRests_15 : decode cX8_addRests 15 = .ok (.iload 5, 2) := by decide +kernel
theorem dX8_addRests_17 : decode cX8_addRests 17 = .ok (.imul, 1) := by decide +kernel
theorem dX8_addRests_18 : decode cX8_addRests 18 = .ok (.iload_n 3, 1) := by decide +kernel
theorem dX8_addRests_19 : decode cX8_addRests 19 = .ok (.irem, 1) := by decide +kernel
theorem dX8_addRests_20 : decode cX8_addRests 20 = .ok (.imul, 1) := by decide +kernel
theorem dX8_addRests_21 : decode cX8_addRests 21 = .ok (.iadd, 1) := by decide +kernel
theorem dX8_addRests_22 : decode cX8_addRests 22 = .ok (.iload_n 3, 1) := by decide +kernel
theorem dX8_addRests_23 : decode cX8_addRests 23 = .ok (.irem, 1) := by decide +kernel
theorem dX8_addRests_24 : decode cX8_addRests 24 = .ok (.istore 6, 2) := by decide +kernel
theorem dX8_addRests_26 : decode cX8_addRests 26 = .ok (.iload 5, 2) := by decide +kernel
theorem dX8_addRests_28 : decode cX8_addRests 28 = .ok (.iload 4, 2) := by decide +kernel
theorem dX8_addRests_30 : decode cX8_addRests 30 = .ok (.irem, 1) := by decide +kernel
theorem dX8_addRests_31 : decode cX8_addRests 31 = .ok (.ifCond .ne 7, 3) := by decide +kernel
theorem dX8_addRests_34 : decode cX8_addRests 34 = .ok (.iconst 1, 1) := by decide +kernel
theorem dX8_addRests_35 : decode cX8_addRests 35 = .ok (.goto 4, 3) := by decide +kernel
theorem dX8_addRests_38 : decode cX8_addRests 38 = .ok (.iconst 0, 1) := by decide +kernel
theorem dX8_addRests_39 : decode cX8_addRests 39 = .ok (.istore 7, 2) := by decide +kernel
theorem dX8_addRests_41 : decode cX8_addRests 41 = .ok (.aload_n 0, 1) := by decide +kernel
theorem dX8_addRests_42 : decode cX8_addRests 42 = .ok (.getfield 66, 3) := by decide +kernel
theorem dX8_addRests_45 : decode cX8_addRests 45 = .ok (.iload 6, 2) := by decide +kernel
theorem dX8_addRests_47 : decode cX8_addRests 47 = .ok (.aload_n 0, 1) := by decide +kernel
theorem dX8_addRests_48 : decode cX8_addRests 48 = .ok (.getfield 66, 3) := by decide +kernel
theorem dX8_addRests_51 : decode cX8_addRests 51 = .ok (.iload 6, 2) := by decide +kernel
theorem dX8_addRests_53 : decode cX8_addRests 53 = .ok (.baload, 1) := by decide +kernel
theorem dX8_addRests_54 : decode cX8_addRests 54 = .ok (.ifCond .ne 17, 3) := by decide +kernel
theorem dX8_addRests_57 : decode cX8_addRests 57 = .ok (.aload_n 0, 1) := by decide +kernel
theorem dX8_addRests_58 : decode cX8_addRests 58 = .ok (.getfield 60, 3) := by decide +kernel
theorem dX8_addRests_61 : decode cX8_addRests 61 = .ok (.iload_n 1, 1) := by decide +kernel
theorem dX8_addRests_62 : decode cX8_addRests 62 = .ok (.baload, 1) := by decide +kernel
theorem dX8_addRests_63 : decode cX8_addRests 63 = .ok (.ifCond .eq 12, 3) := by decide +kernel
theorem dX8_addRests_66 : decode cX8_addRests 66 = .ok (.iload 7, 2) := by decide +kernel
theorem dX8_addRests_68 : decode cX8_addRests 68 = .ok (.ifCond .eq 7, 3) := by decide +kernel
theorem dX8_addRests_71 : decode cX8_addRests 71 = .ok (.iconst 1, 1) := by decide +kernel
theorem dX8_addRests_72 : decode cX8_addRests 72 = .ok (.goto 4, 3) := by decide +kernel
theorem dX8_addRests_75 : decode cX8_addRests 75 = .ok (.iconst 0, 1) := by decide +kernel
theorem dX8_addRests_76 : decode cX8_addRests 76 = .ok (.bastore, 1) := by decide +kernel
theorem dX8_addRests_77 : decode cX8_addRests 77 = .ok (.aload_n 0, 1) := by decide +kernel
theorem dX8_addRests_78 : decode cX8_addRests 78 = .ok (.getfield 69, 3) := by decide +kernel
theorem dX8_addRests_81 : decode cX8_addRests 81 = .ok (.iload 6, 2) := by decide +kernel
theorem dX8_addRests_83 : decode cX8_addRests 83 = .ok (.aload_n 0, 1) := by decide +kernel
theorem dX8_addRests_84 : decode cX8_addRests 84 = .ok (.getfield 69, 3) := by decide +kernel
theorem dX8_addRests_87 : decode cX8_addRests 87 = .ok (.iload 6, 2) := by decide +kernel
theorem dX8_addRests_89 : decode cX8_addRests 89 = .ok (.baload, 1) := by decide +kernel
theorem dX8_addRests_90 : decode cX8_addRests 90 = .ok (.ifCond .ne 26, 3) := by decide +kernel
theorem dX8_addRests_93 : decode cX8_addRests 93 = .ok (.aload_n 0, 1) := by decide +kernel
theorem dX8_addRests_94 : decode cX8_addRests 94 = .ok (.getfield 63, 3) := by decide +kernel
theorem dX8_addRests_97 : decode cX8_addRests 97 = .ok (.iload_n 1, 1) := by decide +kernel
theorem dX8_addRests_98 : decode cX8_addRests 98 = .ok (.baload, 1) := by decide +kernel
theorem dX8_addRests_99 : decode cX8_addRests 99 = .ok (.ifCond .ne 17, 3) := by decide +kernel
theorem dX8_addRests_102 : decode cX8_addRests 102 = .ok (.aload_n 0, 1) := by decide +kernel
theorem dX8_addRests_103 : decode cX8_addRests 103 = .ok (.getfield 60, 3) := by decide +kernel
theorem dX8_addRests_106 : decode cX8_addRests 106 = .ok (.iload_n 1, 1) := by decide +kernel
theorem dX8_addRests_107 : decode cX8_addRests 107 = .ok (.baload, 1) := by decide +kernel
theorem dX8_addRests_108 : decode cX8_addRests 108 = .ok (.ifCond .eq 12, 3) := by decide +kernel
theorem dX8_addRests_111 : decode cX8_addRests 111 = .ok (.iload 7, 2) := by decide +kernel
theorem dX8_addRests_113 : decode cX8_addRests 113 = .ok (.ifCond .ne 7, 3) := by decide +kernel
theorem dX8_addRests_116 : decode cX8_addRests 116 = .ok (.iconst 1, 1) := by decide +kernel
theorem dX8_addRests_117 : decode cX8_addRests 117 = .ok (.goto 4, 3) := by decide +kernel
theorem dX8_addRests_120 : decode cX8_addRests 120 = .ok (.iconst 0, 1) := by decide +kernel
theorem dX8_addRests_121 : decode cX8_addRests 121 = .ok (.bastore, 1) := by decide +kernel
theorem dX8_addRests_122 : decode cX8_addRests 122 = .ok (.iinc 5 1, 3) := by decide +kernel
theorem dX8_addRests_125 : decode cX8_addRests 125 = .ok (.goto (-122), 3) := by decide +kernel
theorem dX8_addRests_128 : decode cX8_addRests 128 = .ok (.return_, 1) := by decide +kernel
set_option maxHeartbeats 4000000 in
set_option maxRecDepth 100000 in
theorem c_X8_addRests (l : Launch) (E : fEv) (N : Nat) (a1 : Int32) (a2 : Int32) (a3 : Int32) (a4 : Int32) (σ : fS) (τ : fS) (hG : g_X8_addRests N a1 a2 a3 a4 σ = some τ) : fM l E yX8_addRests (.code yX8_addRests cX8_addRests 8 none) rm_X8_addRests [.ref (E.2.1 61), .int a1, .int a2, .int a3, .int a4] σ τ none := by
  refine f_openV (by decide) (Nat.le_of_ble_eq_true rfl) ?_
  intro p e s m below meth c args Q F hR hP ls hl
  have hx := F.1.1
  have hb := F.1.2.1
  have hown := F.1.2.2.2.1
  have hts := F.1.2.2.2.2
  have hS : va_S (f_A E) s.heap s.heap [] := va_S.rf
  skip
  have hl : lv_has ls 8 [(0, .ref (E.2.1 61)), (1, .int a1), (2, .int a2), (3, .int a3), (4, .int a4)] := hl
  unfold g_X8_addRests at hG
  refine lv_iconst (v := 0) hx hb dX8_addRests_0 (by decide) ?_
  refine lv_istore (lv' := [(5, .int (0 : Int32)), (0, .ref (E.2.1 61)), (1, .int a1), (2, .int a2), (3, .int a3), (4, .int a4)]) hx hb dX8_addRests_1 hl (by decide) rfl (fun ls hl => ?_)
  obtain ⟨σl3, hT3, hG⟩ := f_bv hG
  have T3 : ∀ (H : Heap) (locs : List Loc) (ls : Array Slot), f_h E σl3 H → va_S (f_A E) s.heap H locs → lv_has ls 8 [] → W p l e rm_X8_addRests s m args below meth c H locs 0 0 Q (F0 m 128 ls []) := by
    intro H locs ls hP hS hl
    exact x_rv hR hS hP hG dX8_addRests_128
  have L3 : ∀ (n3 : Nat) (x3_5 : Int32) (σh3 : fS) (H : Heap) (locs : List Loc) (ls : Array Slot), f_h E σh3 H → va_S (f_A E) s.heap H locs → lv_has ls 8 [(0, .ref (E.2.1 61)), (1, .int a1), (2, .int a2), (3, .int a3), (4, .int a4), (5, .int x3_5)] → lp_X8_addRests_3 N a1 a2 a3 a4 n3 x3_5 σh3 = some σl3 → W p l e rm_X8_addRests s m args below meth c H locs 0 0 Q (F0 m 3 ls []) := by
    intro n3
    induction n3 with
    | zero =>
      intro x3_5 σh3 H locs ls hP hS hl hG
      rw [lp_X8_addRests_3] at hG
      cases hG
    | succ n3 ih3 =>
      intro x3_5 σh3 H locs ls hP hS hl hG
      rw [lp_X8_addRests_3] at hG
      refine lv_iload hx hb dX8_addRests_3 (lv_at hl 5 rfl) ?_
      refine lv_iload_n hx hb dX8_addRests_5 rfl (lv_at hl 3 rfl) ?_
      refine lv_iconst (v := 2) hx hb dX8_addRests_6 (by decide) ?_
      refine lv_idiv hx hb dX8_addRests_7 (by decide) ?_
      refine lv_icmp_gt (tgt := 128) hx hb dX8_addRests_8 (by decide) (fun c8 => ?_) (fun c8 => ?_)
      · have hG := f_ip c8 hG
        cases hG
        exact T3 _ _ _ hP hS (lv_sub hl [] rfl)
      · have hG := f_in c8 hG
        refine lv_iload_n hx hb dX8_addRests_11 rfl (lv_at hl 1 rfl) ?_
        refine lv_iload_n hx hb dX8_addRests_12 rfl (lv_at hl 2 rfl) ?_
        refine lv_iload hx hb dX8_addRests_13 (lv_at hl 5 rfl) ?_
        refine lv_iload hx hb dX8_addRests_15 (lv_at hl 5 rfl) ?_
        refine lv_imul hx hb dX8_addRests_17 ?_
        refine lv_iload_n hx hb dX8_addRests_18 rfl (lv_at hl 3 rfl) ?_
        obtain ⟨h19, hG⟩ := f_gd hG
        refine x_irem F dX8_addRests_19 (f_nz h19) ?_
        refine lv_imul hx hb dX8_addRests_20 ?_
        refine lv_iadd hx hb dX8_addRests_21 ?_
        refine lv_iload_n hx hb dX8_addRests_22 rfl (lv_at hl 3 rfl) ?_
        obtain ⟨h23, hG⟩ := f_gd hG
        refine x_irem F dX8_addRests_23 (f_nz h23) ?_
        refine lv_topi (fun v24 e24 => ?_)
        have hG := f_lt hG e24
        refine lv_istore (lv' := [(6, .int v24), (0, .ref (E.2.1 61)), (1, .int a1), (2, .int a2), (3, .int a3), (4, .int a4), (5, .int x3_5)]) hx hb dX8_addRests_24 hl (by decide) rfl (fun ls hl => ?_)
        refine lv_iload hx hb dX8_addRests_26 (lv_at hl 6 rfl) ?_
        refine lv_iload hx hb dX8_addRests_28 (lv_at hl 5 rfl) ?_
        obtain ⟨h30, hG⟩ := f_gd hG
        refine x_irem F dX8_addRests_30 (f_nz h30) ?_
        obtain ⟨o31, σj31, hT31, hG⟩ := f_bd hG
        have T31 : ∀ (H : Heap) (locs : List Loc) (ls : Array Slot), f_h E σj31 H → va_S (f_A E) s.heap H locs → lv_has ls 8 [(0, .ref (E.2.1 61)), (1, .int a1), (2, .int a2), (3, .int a3), (4, .int a4), (5, .int x3_5), (6, .int v24)] → W p l e rm_X8_addRests s m args below meth c H locs 0 0 Q (F0 m 39 ls [.int o31]) := by
          intro H locs ls hP hS hl
          refine lv_istore (lv' := [(7, .int o31), (0, .ref (E.2.1 61)), (1, .int a1), (2, .int a2), (3, .int a3), (4, .int a4), (5, .int x3_5), (6, .int v24)]) hx hb dX8_addRests_39 hl (by decide) rfl (fun ls hl => ?_)
          refine lv_aload_n hx hb dX8_addRests_41 rfl (lv_at hl 1 rfl) ?_
          refine gf_X8_66 F hP dX8_addRests_42 ?_
          refine lv_iload hx hb dX8_addRests_45 (lv_at hl 7 rfl) ?_
          refine lv_aload_n hx hb dX8_addRests_47 rfl (lv_at hl 1 rfl) ?_
          refine gf_X8_66 F hP dX8_addRests_48 ?_
          refine lv_iload hx hb dX8_addRests_51 (lv_at hl 7 rfl) ?_
          obtain ⟨h53, hG⟩ := f_gd hG
          have i53 := f_fin h53
          refine x_zald F hP rfl rfl i53 dX8_addRests_53 ?_
          obtain ⟨o54, σj54, hT54, hG⟩ := f_bd hG
          have T54 : ∀ (H : Heap) (locs : List Loc) (ls : Array Slot), f_h E σj54 H → va_S (f_A E) s.heap H locs → lv_has ls 8 [(0, .ref (E.2.1 61)), (1, .int a1), (2, .int a2), (3, .int a3), (4, .int a4), (5, .int x3_5), (6, .int v24), (7, .int o31)] → W p l e rm_X8_addRests s m args below meth c H locs 0 0 Q (F0 m 76 ls [.int o54, .int v24, .ref (E.2.1 80)]) := by
            intro H locs ls hP hS hl
            obtain ⟨h76, hG⟩ := f_gd hG
            have i76 := f_fin h76
            obtain ⟨z76, hG⟩ := f_gd hG
            refine x_zast F hS hP rfl rfl (x_zB _ (f_isB z76)) i76 dX8_addRests_76 (fun H locs hP hS => ?_)
            obtain ⟨σ76, e76⟩ : ∃ t : fS, t = sI σj54 80 (v24).toNatClampNeg o54 := ⟨_, rfl⟩
            rw [← e76] at hP
            have hG := f_lt hG e76
            refine lv_aload_n hx hb dX8_addRests_77 rfl (lv_at hl 0 rfl) ?_
            refine gf_X8_69 F hP dX8_addRests_78 ?_
            refine lv_iload hx hb dX8_addRests_81 (lv_at hl 6 rfl) ?_
            refine lv_aload_n hx hb dX8_addRests_83 rfl (lv_at hl 0 rfl) ?_
            refine gf_X8_69 F hP dX8_addRests_84 ?_
            refine lv_iload hx hb dX8_addRests_87 (lv_at hl 6 rfl) ?_
            obtain ⟨h89, hG⟩ := f_gd hG
            have i89 := f_fin h89
            refine x_zald F hP rfl rfl i89 dX8_addRests_89 ?_
            obtain ⟨o90, σj90, hT90, hG⟩ := f_bd hG
            have T90 : ∀ (H : Heap) (locs : List Loc) (ls : Array Slot), f_h E σj90 H → va_S (f_A E) s.heap H locs → lv_has ls 8 [(0, .ref (E.2.1 61)), (1, .int a1), (2, .int a2), (3, .int a3), (4, .int a4), (5, .int x3_5)] → W p l e rm_X8_addRests s m args below meth c H locs 0 0 Q (F0 m 121 ls [.int o90, .int v24, .ref (E.2.1 81)]) := by
              intro H locs ls hP hS hl
              obtain ⟨h121, hG⟩ := f_gd hG
              have i121 := f_fin h121
              obtain ⟨z121, hG⟩ := f_gd hG
              refine x_zast F hS hP rfl rfl (x_zB _ (f_isB z121)) i121 dX8_addRests_121 (fun H locs hP hS => ?_)
              obtain ⟨σ121, e121⟩ : ∃ t : fS, t = sI σj90 81 (v24).toNatClampNeg o90 := ⟨_, rfl⟩
              rw [← e121] at hP
              have hG := f_lt hG e121
              refine lv_iinc (v := (x3_5 + (1 : Int32))) (lv' := [(5, .int (x3_5 + (1 : Int32))), (0, .ref (E.2.1 61)), (1, .int a1), (2, .int a2), (3, .int a3), (4, .int a4)]) hx hb dX8_addRests_122 hl (k := 5) rfl (by rfl) (by decide) rfl (fun ls hl => ?_)
              refine lv_goto (tgt := 3) hx hb dX8_addRests_125 (by decide) ?_
              exact ih3 (x3_5 + (1 : Int32)) σ121 _ _ _ hP hS (lv_sub hl [1, 2, 3, 4, 5, 0] rfl) hG
            have hG := hT90
            clear hT90
            refine lv_if_ne (tgt := 116) hx hb dX8_addRests_90 (by decide) (fun c90 => ?_) (fun c90 => ?_)
            · have hG := f_in c90 hG
              refine lv_iconst (v := 1) hx hb dX8_addRests_116 (by decide) ?_
              refine lv_goto (tgt := 121) hx hb dX8_addRests_117 (by decide) ?_
              cases hG
              exact T90 _ _ _ hP hS (lv_sub hl [0, 1, 2, 3, 4, 5] rfl)
            · have hG := f_ip c90 hG
              refine lv_aload_n hx hb dX8_addRests_93 rfl (lv_at hl 0 rfl) ?_
              refine gf_X8_63 F hP dX8_addRests_94 ?_
              refine lv_iload_n hx hb dX8_addRests_97 rfl (lv_at hl 1 rfl) ?_
              obtain ⟨h98, hG⟩ := f_gd hG
              have i98 := f_fin h98
              refine x_zald F hP rfl rfl i98 dX8_addRests_98 ?_
              refine lv_if_ne (tgt := 116) hx hb dX8_addRests_99 (by decide) (fun c99 => ?_) (fun c99 => ?_)
              · have hG := f_in c99 hG
                refine lv_iconst (v := 1) hx hb dX8_addRests_116 (by decide) ?_
                refine lv_goto (tgt := 121) hx hb dX8_addRests_117 (by decide) ?_
                cases hG
                exact T90 _ _ _ hP hS (lv_sub hl [0, 1, 2, 3, 4, 5] rfl)
              · have hG := f_ip c99 hG
                refine lv_aload_n hx hb dX8_addRests_102 rfl (lv_at hl 0 rfl) ?_
                refine gf_X8_60 F hP dX8_addRests_103 ?_
                refine lv_iload_n hx hb dX8_addRests_106 rfl (lv_at hl 1 rfl) ?_
                obtain ⟨h107, hG⟩ := f_gd hG
                have i107 := f_fin h107
                refine x_zald F hP rfl rfl i107 dX8_addRests_107 ?_
                refine lv_if_eq (tgt := 120) hx hb dX8_addRests_108 (by decide) (fun c108 => ?_) (fun c108 => ?_)
                · have hG := f_ip c108 hG
                  refine lv_iconst (v := 0) hx hb dX8_addRests_120 (by decide) ?_
                  cases hG
                  exact T90 _ _ _ hP hS (lv_sub hl [0, 1, 2, 3, 4, 5] rfl)
                · have hG := f_in c108 hG
                  refine lv_iload hx hb dX8_addRests_111 (lv_at hl 7 rfl) ?_
                  refine lv_if_ne (tgt := 120) hx hb dX8_addRests_113 (by decide) (fun c113 => ?_) (fun c113 => ?_)
                  · have hG := f_in c113 hG
                    refine lv_iconst (v := 0) hx hb dX8_addRests_120 (by decide) ?_
                    cases hG
                    exact T90 _ _ _ hP hS (lv_sub hl [0, 1, 2, 3, 4, 5] rfl)
                  · have hG := f_ip c113 hG
                    refine lv_iconst (v := 1) hx hb dX8_addRests_116 (by decide) ?_
                    refine lv_goto (tgt := 121) hx hb dX8_addRests_117 (by decide) ?_
                    cases hG
                    exact T90 _ _ _ hP hS (lv_sub hl [0, 1, 2, 3, 4, 5] rfl)
          have hG := hT54
          clear hT54
          refine lv_if_ne (tgt := 71) hx hb dX8_addRests_54 (by decide) (fun c54 => ?_) (fun c54 => ?_)
          · have hG := f_in c54 hG
            refine lv_iconst (v := 1) hx hb dX8_addRests_71 (by decide) ?_
            refine lv_goto (tgt := 76) hx hb dX8_addRests_72 (by decide) ?_
            cases hG
            exact T54 _ _ _ hP hS (lv_sub hl [1, 2, 3, 4, 5, 6, 7, 0] rfl)
          · have hG := f_ip c54 hG
            refine lv_aload_n hx hb dX8_addRests_57 rfl (lv_at hl 1 rfl) ?_
            refine gf_X8_60 F hP dX8_addRests_58 ?_
            refine lv_iload_n hx hb dX8_addRests_61 rfl (lv_at hl 2 rfl) ?_
            obtain ⟨h62, hG⟩ := f_gd hG
            have i62 := f_fin h62
            refine x_zald F hP rfl rfl i62 dX8_addRests_62 ?_
            refine lv_if_eq (tgt := 75) hx hb dX8_addRests_63 (by decide) (fun c63 => ?_) (fun c63 => ?_)
            · have hG := f_ip c63 hG
              refine lv_iconst (v := 0) hx hb dX8_addRests_75 (by decide) ?_
              cases hG
              exact T54 _ _ _ hP hS (lv_sub hl [1, 2, 3, 4, 5, 6, 7, 0] rfl)
            · have hG := f_in c63 hG
              refine lv_iload hx hb dX8_addRests_66 (lv_at hl 0 rfl) ?_
              refine lv_if_eq (tgt := 75) hx hb dX8_addRests_68 (by decide) (fun c68 => ?_) (fun c68 => ?_)
              · have hG := f_ip c68 hG
                refine lv_iconst (v := 0) hx hb dX8_addRests_75 (by decide) ?_
                cases hG
                exact T54 _ _ _ hP hS (lv_sub hl [1, 2, 3, 4, 5, 6, 7, 0] rfl)
              · have hG := f_in c68 hG
                refine lv_iconst (v := 1) hx hb dX8_addRests_71 (by decide) ?_
                refine lv_goto (tgt := 76) hx hb dX8_addRests_72 (by decide) ?_
                cases hG
                exact T54 _ _ _ hP hS (lv_sub hl [1, 2, 3, 4, 5, 6, 7, 0] rfl)
        have hG := hT31
        clear hT31
        refine lv_if_ne (tgt := 38) hx hb dX8_addRests_31 (by decide) (fun c31 => ?_) (fun c31 => ?_)
        · have hG := f_in c31 hG
          refine lv_iconst (v := 0) hx hb dX8_addRests_38 (by decide) ?_
          cases hG
          exact T31 _ _ _ hP hS (lv_sub hl [1, 2, 3, 4, 5, 6, 0] rfl)
        · have hG := f_ip c31 hG
          refine lv_iconst (v := 1) hx hb dX8_addRests_34 (by decide) ?_
          refine lv_goto (tgt := 39) hx hb dX8_addRests_35 (by decide) ?_
          cases hG
          exact T31 _ _ _ hP hS (lv_sub hl [1, 2, 3, 4, 5, 6, 0] rfl)
  exact L3 N (0 : Int32) σ _ _ _ hP hS (lv_sub hl [1, 2, 3, 4, 5, 0] rfl) hT3
theorem dX8_addTerm_0 : decode cX8_addTerm 0 = .ok (.iconst 0, 1) := by decide +kernel
theorem dX8_addTerm_1 : decode cX8_addTerm 1 = .ok (.istore 4, 2) := by decide +kernel
theorem dX8_addTerm_3 : decode cX8_addTerm 3 = .ok (.iload 4, 2) := by decide +kernel
theorem dX8_addTerm_5 : decode cX8_addTerm 5 = .ok (.iload_n 2, 1) := by decide +kernel
theorem dX8_addTerm_6 : decode cX8_addTerm 6 = .ok (.if_icmp .ge 25, 3) := by decide +kernel
theorem dX8_addTerm_9 : decode cX8_addTerm 9 = .ok (.aload_n 0, 1) := by decide +kernel
theorem dX8_addTerm_10 : decode cX8_addTerm 10 = .ok (.getfield 66, 3) := by decide +kernel
theorem dX8_addTerm_13 : decode cX8_addTerm 13 = .ok (.iload 4, 2) := by decide +kernel
theorem dX8_addTerm_15 : decode cX8_addTerm 15 = .ok (.iconst 0, 1) := by decide +kernel
theorem dX8_addTerm_16 : decode cX8_addTerm 16 = .ok (.bastore, 1) := by decide +kernel
theorem dX8_addTerm_17 : decode cX8_addTerm 17 = .ok (.aload_n 0, 1) := by decide +kernel
theorem dX8_addTerm_18 : decode cX8_addTerm 18 = .ok (.getfield 69, 3) := by decide +kernel
theorem dX8_addTerm_21 : decode cX8_addTerm 21 = .ok (.iload 4, 2) := by decide +kernel
theorem dX8_addTerm_23 : decode cX8_addTerm 23 = .ok (.iconst 0, 1) := by decide +kernel
theorem dX8_addTerm_24 : decode cX8_addTerm 24 = .ok (.bastore, 1) := by decide +kernel
theorem dX8_addTerm_25 : decode cX8_addTerm 25 = .ok (.iinc 4 1, 3) := by decide +kernel
theorem dX8_addTerm_28 : decode cX8_addTerm 28 = .ok (.goto (-25), 3) := by decide +kernel
theorem dX8_addTerm_31 : decode cX8_addTerm 31 = .ok (.iload_n 1, 1) := by decide +kernel
theorem dX8_addTerm_32 : decode cX8_addTerm 32 = .ok (.iload_n 2, 1) := by decide +kernel
theorem dX8_addTerm_33 : decode cX8_addTerm 33 = .ok (.irem, 1) := by decide +kernel
theorem dX8_addTerm_34 : decode cX8_addTerm 34 = .ok (.iload_n 2, 1) := by decide +kernel
theorem dX8_addTerm_35 : decode cX8_addTerm 35 = .ok (.iadd, 1) := by decide +kernel
theorem dX8_addTerm_36 : decode cX8_addTerm 36 = .ok (.iload_n 2, 1) := by decide +kernel
theorem dX8_addTerm_37 : decode cX8_addTerm 37 = .ok (.irem, 1) := by decide +kernel
theorem dX8_addTerm_38 : decode cX8_addTerm 38 = .ok (.istore 4, 2) := by decide +kernel
theorem dX8_addTerm_40 : decode cX8_addTerm 40 = .ok (.iconst 0, 1) := by decide +kernel
theorem dX8_addTerm_41 : decode cX8_addTerm 41 = .ok (.istore 5, 2) := by decide +kernel
theorem dX8_addTerm_43 : decode cX8_addTerm 43 = .ok (.iload 5, 2) := by decide +kernel
theorem dX8_addTerm_45 : decode cX8_addTerm 45 = .ok (.iload_n 2, 1) := by decide +kernel
theorem dX8_addTerm_46 : decode cX8_addTerm 46 = .ok (.if_icmp .ge 39, 3) := by decide +kernel
theorem dX8_addTerm_49 : decode cX8_addTerm 49 = .ok (.aload_n 0, 1) := by decide +kernel
theorem dX8_addTerm_50 : decode cX8_addTerm 50 = .ok (.getfield 60, 3) := by decide +kernel
theorem dX8_addTerm_53 : decode cX8_addTerm 53 = .ok (.iload 5, 2) := by decide +kernel
theorem dX8_addTerm_55 : decode cX8_addTerm 55 = .ok (.baload, 1) := by decide +kernel
theorem dX8_addTerm_56 : decode cX8_addTerm 56 = .ok (.ifCond .ne 13, 3) := by decide +kernel
theorem dX8_addTerm_59 : decode cX8_addTerm 59 = .ok (.aload_n 0, 1) := by decide +kernel
theorem dX8_addTerm_60 : decode cX8_addTerm 60 = .ok (.getfield 63, 3) := by decide +kernel
theorem dX8_addTerm_63 : decode cX8_addTerm 63 = .ok (.iload 5, 2) := by decide +kernel
theorem dX8_addTerm_65 : decode cX8_addTerm 65 = .ok (.baload, 1) := by decide +kernel
theorem dX8_addTerm_66 : decode cX8_addTerm 66 = .ok (.ifCond .eq 13, 3) := by decide +kernel
theorem dX8_addTerm_69 : decode cX8_addTerm 69 = .ok (.aload_n 0, 1) := by decide +kernel
theorem dX8_addTerm_70 : decode cX8_addTerm 70 = .ok (.iload 5, 2) := by decide +kernel
theorem dX8_addTerm_72 : decode cX8_addTerm 72 = .ok (.iload 4, 2) := by decide +kernel
theorem dX8_addTerm_74 : decode cX8_addTerm 74 = .ok (.iload_n 2, 1) := by decide +kernel
theorem dX8_addTerm_75 : decode cX8_addTerm 75 = .ok (.iload_n 3, 1) := by decide +kernel
theorem dX8_addTerm_76 : decode cX8_addTerm 76 = .ok (.invokevirtual 102, 3) := by decide +kernel
theorem dX8_addTerm_79 : decode cX8_addTerm 79 = .ok (.iinc 5 1, 3) := by decide +kernel
theorem dX8_addTerm_82 : decode cX8_addTerm 82 = .ok (.goto (-39), 3) := by decide +kernel
theorem dX8_addTerm_85 : decode cX8_addTerm 85 = .ok (.iconst 0, 1) := by decide +kernel
theorem dX8_addTerm_86 : decode cX8_addTerm 86 = .ok (.istore 5, 2) := by decide +kernel
theorem dX8_addTerm_88 : decode cX8_addTerm 88 = .ok (.iload 5, 2) := by decide +kernel
theorem dX8_addTerm_90 : decode cX8_addTerm 90 = .ok (.iload_n 2, 1) := by decide +kernel
theorem dX8_addTerm_91 : decode cX8_addTerm 91 = .ok (.if_icmp .ge 37, 3) := by decide +kernel
theorem dX8_addTerm_94 : decode cX8_addTerm 94 = .ok (.aload_n 0, 1) := by decide +kernel
theorem dX8_addTerm_95 : decode cX8_addTerm 95 = .ok (.getfield 60, 3) := by decide +kernel
theorem dX8_addTerm_98 : decode cX8_addTerm 98 = .ok (.iload 5, 2) := by decide +kernel
theorem dX8_addTerm_100 : decode cX8_addTerm 100 = .ok (.aload_n 0, 1) := by decide +kernel
theorem dX8_addTerm_101 : decode cX8_addTerm 101 = .ok (.getfield 66, 3) := by decide +kernel
theorem dX8_addTerm_104 : decode cX8_addTerm 104 = .ok (.iload 5, 2) := by decide +kernel
theorem dX8_addTerm_106 : decode cX8_addTerm 106 = .ok (.baload, 1) := by decide +kernel
theorem dX8_addTerm_107 : decode cX8_addTerm 107 = .ok (.bastore, 1) := by decide +kernel
theorem dX8_addTerm_108 : decode cX8_addTerm 108 = .ok (.aload_n 0, 1) := by decide +kernel
theorem dX8_addTerm_109 : decode cX8_addTerm 109 = .ok (.getfield 63, 3) := by decide +kernel
theorem dX8_addTerm_112 : decode cX8_addTerm 112 = .ok (.iload 5, 2) := by decide +kernel
theorem dX8_addTerm_114 : decode cX8_addTerm 114 = .ok (.aload_n 0, 1) := by decide +kernel
theorem dX8_addTerm_115 : decode cX8_addTerm 115 = .ok (.getfield 69, 3) := by decide +kernel
theorem dX8_addTerm_118 : decode cX8_addTerm 118 = .ok (.iload 5, 2) := by decide +kernel
theorem dX8_addTerm_120 : decode cX8_addTerm 120 = .ok (.baload, 1) := by decide +kernel
theorem dX8_addTerm_121 : decode cX8_addTerm 121 = .ok (.bastore, 1) := by decide +kernel
theorem dX8_addTerm_122 : decode cX8_addTerm 122 = .ok (.iinc 5 1, 3) := by decide +kernel
theorem dX8_addTerm_125 : decode cX8_addTerm 125 = .ok (.goto (-37), 3) := by decide +kernel
theorem dX8_addTerm_128 : decode cX8_addTerm 128 = .ok (.return_, 1) := by decide +kernel
set_option maxHeartbeats 4000000 in
set_option maxRecDepth 100000 in
theorem c_X8_addTerm (l : Launch) (E : fEv) (N : Nat) (a1 : Int32) (a2 : Int32) (a3 : Int32) (σ : fS) (τ : fS) (hG : g_X8_addTerm N a1 a2 a3 σ = some τ) : fM l E yX8_addTerm (.code yX8_addTerm cX8_addTerm 6 none) rm_X8_addTerm [.ref (E.2.1 61), .int a1, .int a2, .int a3] σ τ none := by
  refine f_openV (by decide) (Nat.le_of_ble_eq_true rfl) ?_
  intro p e s m below meth c args Q F hR hP ls hl
  have hx := F.1.1
  have hb := F.1.2.1
  have hown := F.1.2.2.2.1
  have hts := F.1.2.2.2.2
  have hS : va_S (f_A E) s.heap s.heap [] := va_S.rf
  skip
  have hl : lv_has ls 6 [(0, .ref (E.2.1 61)), (1, .int a1), (2, .int a2), (3, .int a3)] := hl
  unfold g_X8_addTerm at hG
  refine lv_iconst (v := 0) hx hb dX8_addTerm_0 (by decide) ?_
  refine lv_istore (lv' := [(4, .int (0 : Int32)), (0, .ref (E.2.1 61)), (1, .int a1), (2, .int a2), (3, .int a3)]) hx hb dX8_addTerm_1 hl (by decide) rfl (fun ls hl => ?_)
  obtain ⟨σl3, hT3, hG⟩ := f_bv hG
  have T3 : ∀ (H : Heap) (locs : List Loc) (ls : Array Slot), f_h E σl3 H → va_S (f_A E) s.heap H locs → lv_has ls 6 [(0, .ref (E.2.1 61)), (1, .int a1), (2, .int a2), (3, .int a3)] → W p l e rm_X8_addTerm s m args below meth c H locs 0 0 Q (F0 m 31 ls []) := by
    intro H locs ls hP hS hl
    refine lv_iload_n hx hb dX8_addTerm_31 rfl (lv_at hl 1 rfl) ?_
    refine lv_iload_n hx hb dX8_addTerm_32 rfl (lv_at hl 2 rfl) ?_
    obtain ⟨h33, hG⟩ := f_gd hG
    refine x_irem F dX8_addTerm_33 (f_nz h33) ?_
    refine lv_iload_n hx hb dX8_addTerm_34 rfl (lv_at hl 2 rfl) ?_
    refine lv_iadd hx hb dX8_addTerm_35 ?_
    refine lv_iload_n hx hb dX8_addTerm_36 rfl (lv_at hl 2 rfl) ?_
    obtain ⟨h37, hG⟩ := f_gd hG
    refine x_irem F dX8_addTerm_37 (f_nz h37) ?_
    refine lv_topi (fun v38 e38 => ?_)
    have hG := f_lt hG e38
    refine lv_istore (lv' := [(4, .int v38), (0, .ref (E.2.1 61)), (1, .int a1), (2, .int a2), (3, .int a3)]) hx hb dX8_addTerm_38 hl (by decide) rfl (fun ls hl => ?_)
    refine lv_iconst (v := 0) hx hb dX8_addTerm_40 (by decide) ?_
    refine lv_istore (lv' := [(5, .int (0 : Int32)), (4, .int v38), (0, .ref (E.2.1 61)), (1, .int a1), (2, .int a2), (3, .int a3)]) hx hb dX8_addTerm_41 hl (by decide) rfl (fun ls hl => ?_)
    obtain ⟨σl43, hT43, hG⟩ := f_bv hG
    have T43 : ∀ (H : Heap) (locs : List Loc) (ls : Array Slot), f_h E σl43 H → va_S (f_A E) s.heap H locs → lv_has ls 6 [(0, .ref (E.2.1 61)), (2, .int a2)] → W p l e rm_X8_addTerm s m args below meth c H locs 0 0 Q (F0 m 85 ls []) := by
      intro H locs ls hP hS hl
      refine lv_iconst (v := 0) hx hb dX8_addTerm_85 (by decide) ?_
      refine lv_istore (lv' := [(5, .int (0 : Int32)), (0, .ref (E.2.1 61)), (2, .int a2)]) hx hb dX8_addTerm_86 hl (by decide) rfl (fun ls hl => ?_)
      obtain ⟨σl88, hT88, hG⟩ := f_bv hG
      have T88 : ∀ (H : Heap) (locs : List Loc) (ls : Array Slot), f_h E σl88 H → va_S (f_A E) s.heap H locs → lv_has ls 6 [] → W p l e rm_X8_addTerm s m args below meth c H locs 0 0 Q (F0 m 128 ls []) := by
        intro H locs ls hP hS hl
        exact x_rv hR hS hP hG dX8_addTerm_128
      have L88 : ∀ (n88 : Nat) (x88_5 : Int32) (σh88 : fS) (H : Heap) (locs : List Loc) (ls : Array Slot), f_h E σh88 H → va_S (f_A E) s.heap H locs → lv_has ls 6 [(0, .ref (E.2.1 61)), (2, .int a2), (5, .int x88_5)] → lp_X8_addTerm_88 N a2 n88 x88_5 σh88 = some σl88 → W p l e rm_X8_addTerm s m args below meth c H locs 0 0 Q (F0 m 88 ls []) := by
        intro n88
        induction n88 with
        | zero =>
          intro x88_5 σh88 H locs ls hP hS hl hG
          rw [lp_X8_addTerm_88] at hG
          cases hG
        | succ n88 ih88 =>
          intro x88_5 σh88 H locs ls hP hS hl hG
          rw [lp_X8_addTerm_88] at hG
          refine lv_iload hx hb dX8_addTerm_88 (lv_at hl 2 rfl) ?_
          refine lv_iload_n hx hb dX8_addTerm_90 rfl (lv_at hl 1 rfl) ?_
          refine lv_icmp_ge (tgt := 128) hx hb dX8_addTerm_91 (by decide) (fun c91 => ?_) (fun c91 => ?_)
          · have hG := f_ip c91 hG
            cases hG
            exact T88 _ _ _ hP hS (lv_sub hl [] rfl)
          · have hG := f_in c91 hG
            refine lv_aload_n hx hb dX8_addTerm_94 rfl (lv_at hl 0 rfl) ?_
            refine gf_X8_60 F hP dX8_addTerm_95 ?_
            refine lv_iload hx hb dX8_addTerm_98 (lv_at hl 2 rfl) ?_
            refine lv_aload_n hx hb dX8_addTerm_100 rfl (lv_at hl 0 rfl) ?_
            refine gf_X8_66 F hP dX8_addTerm_101 ?_
            refine lv_iload hx hb dX8_addTerm_104 (lv_at hl 2 rfl) ?_
            obtain ⟨h106, hG⟩ := f_gd hG
            have i106 := f_fin h106
            refine x_zald F hP rfl rfl i106 dX8_addTerm_106 ?_
            obtain ⟨h107, hG⟩ := f_gd hG
            have i107 := f_fin h107
            obtain ⟨z107, hG⟩ := f_gd hG
            refine x_zast F hS hP rfl rfl (x_zB _ (f_isB z107)) i107 dX8_addTerm_107 (fun H locs hP hS => ?_)
            obtain ⟨σ107, e107⟩ : ∃ t : fS, t = sI σh88 78 (x88_5).toNatClampNeg (σh88.1 80 (x88_5).toNatClampNeg) := ⟨_, rfl⟩
            rw [← e107] at hP
            have hG := f_lt hG e107
            refine lv_aload_n hx hb dX8_addTerm_108 rfl (lv_at hl 0 rfl) ?_
            refine gf_X8_63 F hP dX8_addTerm_109 ?_
            refine lv_iload hx hb dX8_addTerm_112 (lv_at hl 2 rfl) ?_
            refine lv_aload_n hx hb dX8_addTerm_114 rfl (lv_at hl 0 rfl) ?_
            refine gf_X8_69 F hP dX8_addTerm_115 ?_
            refine lv_iload hx hb dX8_addTerm_118 (lv_at hl 2 rfl) ?_
            obtain ⟨h120, hG⟩ := f_gd hG
            have i120 := f_fin h120
            refine x_zald F hP rfl rfl i120 dX8_addTerm_120 ?_
            obtain ⟨h121, hG⟩ := f_gd hG
            have i121 := f_fin h121
            obtain ⟨z121, hG⟩ := f_gd hG
            refine x_zast F hS hP rfl rfl (x_zB _ (f_isB z121)) i121 dX8_addTerm_121 (fun H locs hP hS => ?_)
            obtain ⟨σ121, e121⟩ : ∃ t : fS, t = sI σ107 79 (x88_5).toNatClampNeg (σ107.1 81 (x88_5).toNatClampNeg) := ⟨_, rfl⟩
            rw [← e121] at hP
            have hG := f_lt hG e121
            refine lv_iinc (v := (x88_5 + (1 : Int32))) (lv' := [(5, .int (x88_5 + (1 : Int32))), (0, .ref (E.2.1 61)), (2, .int a2)]) hx hb dX8_addTerm_122 hl (k := 2) rfl (by rfl) (by decide) rfl (fun ls hl => ?_)
            refine lv_goto (tgt := 88) hx hb dX8_addTerm_125 (by decide) ?_
            exact ih88 (x88_5 + (1 : Int32)) σ121 _ _ _ hP hS (lv_sub hl [1, 2, 0] rfl) hG
      exact L88 N (0 : Int32) σl43 _ _ _ hP hS (lv_sub hl [1, 2, 0] rfl) hT88
    have L43 : ∀ (n43 : Nat) (x43_5 : Int32) (σh43 : fS) (H : Heap) (locs : List Loc) (ls : Array Slot), f_h E σh43 H → va_S (f_A E) s.heap H locs → lv_has ls 6 [(0, .ref (E.2.1 61)), (2, .int a2), (3, .int a3), (4, .int v38), (5, .int x43_5)] → lp_X8_addTerm_43 N a2 a3 v38 n43 x43_5 σh43 = some σl43 → W p l e rm_X8_addTerm s m args below meth c H locs 0 0 Q (F0 m 43 ls []) := by
      intro n43
      induction n43 with
      | zero =>
        intro x43_5 σh43 H locs ls hP hS hl hG
        rw [lp_X8_addTerm_43] at hG
        cases hG
      | succ n43 ih43 =>
        intro x43_5 σh43 H locs ls hP hS hl hG
        rw [lp_X8_addTerm_43] at hG
        refine lv_iload hx hb dX8_addTerm_43 (lv_at hl 4 rfl) ?_
        refine lv_iload_n hx hb dX8_addTerm_45 rfl (lv_at hl 1 rfl) ?_
        refine lv_icmp_ge (tgt := 85) hx hb dX8_addTerm_46 (by decide) (fun c46 => ?_) (fun c46 => ?_)
        · have hG := f_ip c46 hG
          cases hG
          exact T43 _ _ _ hP hS (lv_sub hl [0, 1] rfl)
        · have hG := f_in c46 hG
          refine lv_aload_n hx hb dX8_addTerm_49 rfl (lv_at hl 0 rfl) ?_
          refine gf_X8_60 F hP dX8_addTerm_50 ?_
          refine lv_iload hx hb dX8_addTerm_53 (lv_at hl 4 rfl) ?_
          obtain ⟨h55, hG⟩ := f_gd hG
          have i55 := f_fin h55
          refine x_zald F hP rfl rfl i55 dX8_addTerm_55 ?_
          refine lv_if_ne (tgt := 69) hx hb dX8_addTerm_56 (by decide) (fun c56 => ?_) (fun c56 => ?_)
          · have hG := f_in c56 hG
            refine lv_aload_n hx hb dX8_addTerm_69 rfl (lv_at hl 0 rfl) ?_
            refine lv_iload hx hb dX8_addTerm_70 (lv_at hl 4 rfl) ?_
            refine lv_iload hx hb dX8_addTerm_72 (lv_at hl 3 rfl) ?_
            refine lv_iload_n hx hb dX8_addTerm_74 rfl (lv_at hl 1 rfl) ?_
            refine lv_iload_n hx hb dX8_addTerm_75 rfl (lv_at hl 2 rfl) ?_
            obtain ⟨σ76, hC76, hG⟩ := f_bv hG
            refine iv_X8_102 F hS hP (c_X8_addRests l E N x43_5 v38 a2 a3 σh43 _ hC76) ⟨Nat.le_of_ble_eq_true rfl, Nat.le_of_ble_eq_true rfl⟩ hl.1 (Nat.le_of_ble_eq_true rfl) dX8_addTerm_76 ⟨Nat.zero_le _, Nat.zero_le _⟩ (fun H locs hP hS => ?_)
            refine lv_iinc (v := (x43_5 + (1 : Int32))) (lv' := [(5, .int (x43_5 + (1 : Int32))), (0, .ref (E.2.1 61)), (2, .int a2), (3, .int a3), (4, .int v38)]) hx hb dX8_addTerm_79 hl (k := 4) rfl (by rfl) (by decide) rfl (fun ls hl => ?_)
            refine lv_goto (tgt := 43) hx hb dX8_addTerm_82 (by decide) ?_
            exact ih43 (x43_5 + (1 : Int32)) σ76 _ _ _ hP hS (lv_sub hl [1, 2, 3, 4, 0] rfl) hG
          · have hG := f_ip c56 hG
            refine lv_aload_n hx hb dX8_addTerm_59 rfl (lv_at hl 0 rfl) ?_
            refine gf_X8_63 F hP dX8_addTerm_60 ?_
            refine lv_iload hx hb dX8_addTerm_63 (lv_at hl 4 rfl) ?_
            obtain ⟨h65, hG⟩ := f_gd hG
            have i65 := f_fin h65
            refine x_zald F hP rfl rfl i65 dX8_addTerm_65 ?_
            refine lv_if_eq (tgt := 79) hx hb dX8_addTerm_66 (by decide) (fun c66 => ?_) (fun c66 => ?_)
            · have hG := f_ip c66 hG
              refine lv_iinc (v := (x43_5 + (1 : Int32))) (lv' := [(5, .int (x43_5 + (1 : Int32))), (0, .ref (E.2.1 61)), (2, .int a2), (3, .int a3), (4, .int v38)]) hx hb dX8_addTerm_79 hl (k := 4) rfl (by rfl) (by decide) rfl (fun ls hl => ?_)
              refine lv_goto (tgt := 43) hx hb dX8_addTerm_82 (by decide) ?_
              exact ih43 (x43_5 + (1 : Int32)) σh43 _ _ _ hP hS (lv_sub hl [1, 2, 3, 4, 0] rfl) hG
            · have hG := f_in c66 hG
              refine lv_aload_n hx hb dX8_addTerm_69 rfl (lv_at hl 0 rfl) ?_
              refine lv_iload hx hb dX8_addTerm_70 (lv_at hl 4 rfl) ?_
              refine lv_iload hx hb dX8_addTerm_72 (lv_at hl 3 rfl) ?_
              refine lv_iload_n hx hb dX8_addTerm_74 rfl (lv_at hl 1 rfl) ?_
              refine lv_iload_n hx hb dX8_addTerm_75 rfl (lv_at hl 2 rfl) ?_
              obtain ⟨σ76, hC76, hG⟩ := f_bv hG
              refine iv_X8_102 F hS hP (c_X8_addRests l E N x43_5 v38 a2 a3 σh43 _ hC76) ⟨Nat.le_of_ble_eq_true rfl, Nat.le_of_ble_eq_true rfl⟩ hl.1 (Nat.le_of_ble_eq_true rfl) dX8_addTerm_76 ⟨Nat.zero_le _, Nat.zero_le _⟩ (fun H locs hP hS => ?_)
              refine lv_iinc (v := (x43_5 + (1 : Int32))) (lv' := [(5, .int (x43_5 + (1 : Int32))), (0, .ref (E.2.1 61)), (2, .int a2), (3, .int a3), (4, .int v38)]) hx hb dX8_addTerm_79 hl (k := 4) rfl (by rfl) (by decide) rfl (fun ls hl => ?_)
              refine lv_goto (tgt := 43) hx hb dX8_addTerm_82 (by decide) ?_
              exact ih43 (x43_5 + (1 : Int32)) σ76 _ _ _ hP hS (lv_sub hl [1, 2, 3, 4, 0] rfl) hG
    exact L43 N (0 : Int32) σl3 _ _ _ hP hS (lv_sub hl [2, 4, 5, 1, 0] rfl) hT43
  have L3 : ∀ (n3 : Nat) (x3_4 : Int32) (σh3 : fS) (H : Heap) (locs : List Loc) (ls : Array Slot), f_h E σh3 H → va_S (f_A E) s.heap H locs → lv_has ls 6 [(0, .ref (E.2.1 61)), (1, .int a1), (2, .int a2), (3, .int a3), (4, .int x3_4)] → lp_X8_addTerm_3 N a1 a2 a3 n3 x3_4 σh3 = some σl3 → W p l e rm_X8_addTerm s m args below meth c H locs 0 0 Q (F0 m 3 ls []) := by
    intro n3
    induction n3 with
    | zero =>
      intro x3_4 σh3 H locs ls hP hS hl hG
      rw [lp_X8_addTerm_3] at hG
      cases hG
    | succ n3 ih3 =>
      intro x3_4 σh3 H locs ls hP hS hl hG
      rw [lp_X8_addTerm_3] at hG
      refine lv_iload hx hb dX8_addTerm_3 (lv_at hl 4 rfl) ?_
      refine lv_iload_n hx hb dX8_addTerm_5 rfl (lv_at hl 2 rfl) ?_
      refine lv_icmp_ge (tgt := 31) hx hb dX8_addTerm_6 (by decide) (fun c6 => ?_) (fun c6 => ?_)
      · have hG := f_ip c6 hG
        cases hG
        exact T3 _ _ _ hP hS (lv_sub hl [0, 1, 2, 3] rfl)
      · have hG := f_in c6 hG
        refine lv_aload_n hx hb dX8_addTerm_9 rfl (lv_at hl 0 rfl) ?_
        refine gf_X8_66 F hP dX8_addTerm_10 ?_
        refine lv_iload hx hb dX8_addTerm_13 (lv_at hl 4 rfl) ?_
        refine lv_iconst (v := 0) hx hb dX8_addTerm_15 (by decide) ?_
        obtain ⟨h16, hG⟩ := f_gd hG
        have i16 := f_fin h16
        refine x_zast F hS hP rfl rfl (x_zB _ (Or.inl rfl)) i16 dX8_addTerm_16 (fun H locs hP hS => ?_)
        obtain ⟨σ16, e16⟩ : ∃ t : fS, t = sI σh3 80 (x3_4).toNatClampNeg (0 : Int32) := ⟨_, rfl⟩
        rw [← e16] at hP
        have hG := f_lt hG e16
        refine lv_aload_n hx hb dX8_addTerm_17 rfl (lv_at hl 0 rfl) ?_
        refine gf_X8_69 F hP dX8_addTerm_18 ?_
        refine lv_iload hx hb dX8_addTerm_21 (lv_at hl 4 rfl) ?_
        refine lv_iconst (v := 0) hx hb dX8_addTerm_23 (by decide) ?_
        obtain ⟨h24, hG⟩ := f_gd hG
        have i24 := f_fin h24
        refine x_zast F hS hP rfl rfl (x_zB _ (Or.inl rfl)) i24 dX8_addTerm_24 (fun H locs hP hS => ?_)
        obtain ⟨σ24, e24⟩ : ∃ t : fS, t = sI σ16 81 (x3_4).toNatClampNeg (0 : Int32) := ⟨_, rfl⟩
        rw [← e24] at hP
        have hG := f_lt hG e24
        refine lv_iinc (v := (x3_4 + (1 : Int32))) (lv' := [(4, .int (x3_4 + (1 : Int32))), (0, .ref (E.2.1 61)), (1, .int a1), (2, .int a2), (3, .int a3)]) hx hb dX8_addTerm_25 hl (k := 4) rfl (by rfl) (by decide) rfl (fun ls hl => ?_)
        refine lv_goto (tgt := 3) hx hb dX8_addTerm_28 (by decide) ?_
        exact ih3 (x3_4 + (1 : Int32)) σ24 _ _ _ hP hS (lv_sub hl [1, 2, 3, 4, 0] rfl) hG
  exact L3 N (0 : Int32) σ _ _ _ hP hS (lv_sub hl [1, 2, 3, 4, 0] rfl) hT3
theorem dX8_vanishesReal_0 : decode cX8_vanishesReal 0 = .ok (.iconst 0, 1) := by decide +kernel
theorem dX8_vanishesReal_1 : decode cX8_vanishesReal 1 = .ok (.istore_n 1, 1) := by decide +kernel
theorem dX8_vanishesReal_2 : decode cX8_vanishesReal 2 = .ok (.iconst 0, 1) := by decide +kernel
theorem dX8_vanishesReal_3 : decode cX8_vanishesReal 3 = .ok (.istore_n 2, 1) := by decide +kernel
theorem dX8_vanishesReal_4 : decode cX8_vanishesReal 4 = .ok (.iconst 0, 1) := by decide +kernel
theorem dX8_vanishesReal_5 : decode cX8_vanishesReal 5 = .ok (.istore_n 3, 1) := by decide +kernel
theorem dX8_vanishesReal_6 : decode cX8_vanishesReal 6 = .ok (.iload_n 3, 1) := by decide +kernel
theorem dX8_vanishesReal_7 : decode cX8_vanishesReal 7 = .ok (.aload_n 0, 1) := by decide +kernel
theorem dX8_vanishesReal_8 : decode cX8_vanishesReal 8 = .ok (.getfield 106, 3) := by decide +kernel
theorem dX8_vanishesReal_11 : decode cX8_vanishesReal 11 = .ok (.if_icmp .ge 55, 3) := by decide +kernel
theorem dX8_vanishesReal_14 : decode cX8_vanishesReal 14 = .ok (.iload_n 1, 1) := by decide +kernel
theorem dX8_vanishesReal_15 : decode cX8_vanishesReal 15 = .ok (.ifCond .ne 16, 3) := by decide +kernel
theorem dX8_vanishesReal_18 : decode cX8_vanishesReal 18 = .ok (.aload_n 0, 1) := by decide +kernel
theorem dX8_vanishesReal_19 : decode cX8_vanishesReal 19 = .ok (.getfield 57, 3) := by decide +kernel
theorem dX8_vanishesReal_22 : decode cX8_vanishesReal 22 = .ok (.iload_n 3, 1) := by decide +kernel
theorem dX8_vanishesReal_23 : decode cX8_vanishesReal 23 = .ok (.iaload, 1) := by decide +kernel
theorem dX8_vanishesReal_24 : decode cX8_vanishesReal 24 = .ok (.iconst 0, 1) := by decide +kernel
theorem dX8_vanishesReal_25 : decode cX8_vanishesReal 25 = .ok (.invokestatic 85, 3) := by decide +kernel
theorem dX8_vanishesReal_28 : decode cX8_vanishesReal 28 = .ok (.ifCond .ne 7, 3) := by decide +kernel
theorem dX8_vanishesReal_31 : decode cX8_vanishesReal 31 = .ok (.iconst 1, 1) := by decide +kernel
theorem dX8_vanishesReal_32 : decode cX8_vanishesReal 32 = .ok (.goto 4, 3) := by decide +kernel
theorem dX8_vanishesReal_35 : decode cX8_vanishesReal 35 = .ok (.iconst 0, 1) := by decide +kernel
theorem dX8_vanishesReal_36 : decode cX8_vanishesReal 36 = .ok (.istore_n 1, 1) := by decide +kernel
theorem dX8_vanishesReal_37 : decode cX8_vanishesReal 37 = .ok (.iload_n 2, 1) := by decide +kernel
theorem dX8_vanishesReal_38 : decode cX8_vanishesReal 38 = .ok (.ifCond .ne 16, 3) := by decide +kernel
theorem dX8_vanishesReal_41 : decode cX8_vanishesReal 41 = .ok (.aload_n 0, 1) := by decide +kernel
theorem dX8_vanishesReal_42 : decode cX8_vanishesReal 42 = .ok (.getfield 57, 3) := by decide +kernel
theorem dX8_vanishesReal_45 : decode cX8_vanishesReal 45 = .ok (.iload_n 3, 1) := by decide +kernel
theorem dX8_vanishesReal_46 : decode cX8_vanishesReal 46 = .ok (.iaload, 1) := by decide +kernel
theorem dX8_vanishesReal_47 : decode cX8_vanishesReal 47 = .ok (.iconst 0, 1) := by decide +kernel
theorem dX8_vanishesReal_48 : decode cX8_vanishesReal 48 = .ok (.invokestatic 85, 3) := by decide +kernel
theorem dX8_vanishesReal_51 : decode cX8_vanishesReal 51 = .ok (.ifCond .eq 7, 3) := by decide +kernel
theorem dX8_vanishesReal_54 : decode cX8_vanishesReal 54 = .ok (.iconst 1, 1) := by decide +kernel
theorem dX8_vanishesReal_55 : decode cX8_vanishesReal 55 = .ok (.goto 4, 3) := by decide +kernel
theorem dX8_vanishesReal_58 : decode cX8_vanishesReal 58 = .ok (.iconst 0, 1) := by decide +kernel
theorem dX8_vanishesReal_59 : decode cX8_vanishesReal 59 = .ok (.istore_n 2, 1) := by decide +kernel
theorem dX8_vanishesReal_60 : decode cX8_vanishesReal 60 = .ok (.iinc 3 1, 3) := by decide +kernel
theorem dX8_vanishesReal_63 : decode cX8_vanishesReal 63 = .ok (.goto (-57), 3) := by decide +kernel
theorem dX8_vanishesReal_66 : decode cX8_vanishesReal 66 = .ok (.iload_n 1, 1) := by decide +kernel
theorem dX8_vanishesReal_67 : decode cX8_vanishesReal 67 = .ok (.ifCond .eq 11, 3) := by decide +kernel
theorem dX8_vanishesReal_70 : decode cX8_vanishesReal 70 = .ok (.iload_n 2, 1) := by decide +kernel
theorem dX8_vanishesReal_71 : decode cX8_vanishesReal 71 = .ok (.ifCond .eq 7, 3) := by decide +kernel
theorem dX8_vanishesReal_74 : decode cX8_vanishesReal 74 = .ok (.iconst 1, 1) := by decide +kernel
theorem dX8_vanishesReal_75 : decode cX8_vanishesReal 75 = .ok (.goto 4, 3) := by decide +kernel
theorem dX8_vanishesReal_78 : decode cX8_vanishesReal 78 = .ok (.iconst 0, 1) := by decide +kernel
theorem dX8_vanishesReal_79 : decode cX8_vanishesReal 79 = .ok (.ireturn, 1) := by decide +kernel
set_option maxHeartbeats 4000000 in
set_option maxRecDepth 100000 in
theorem c_X8_vanishesReal (l : Launch) (E : fEv) (N : Nat)  (σ : fS) (r : Int32) (τ : fS) (hG : g_X8_vanishesReal N  σ = some (r, τ)) : fM l E yX8_vanishesReal (.code yX8_vanishesReal cX8_vanishesReal 4 (some .boolean)) rm_X8_vanishesReal [.ref (E.2.1 61)] σ τ (some (.int r)) := by
  refine f_openZ (by decide) (Nat.le_of_ble_eq_true rfl) ?_
  intro p e s m below meth c args Q F hR hP ls hl
  have hx := F.1.1
  have hb := F.1.2.1
  have hown := F.1.2.2.2.1
  have hts := F.1.2.2.2.2
  have hS : va_S (f_A E) s.heap s.heap [] := va_S.rf
  skip
  have hl : lv_has ls 4 [(0, .ref (E.2.1 61))] := hl
  unfold g_X8_vanishesReal at hG
  refine lv_iconst (v := 0) hx hb dX8_vanishesReal_0 (by decide) ?_
  refine lv_istore_n (lv' := [(1, .int (0 : Int32)), (0, .ref (E.2.1 61))]) hx hb dX8_vanishesReal_1 rfl hl (by decide) rfl (fun ls hl => ?_)
  refine lv_iconst (v := 0) hx hb dX8_vanishesReal_2 (by decide) ?_
  refine lv_istore_n (lv' := [(2, .int (0 : Int32)), (1, .int (0 : Int32)), (0, .ref (E.2.1 61))]) hx hb dX8_vanishesReal_3 rfl hl (by decide) rfl (fun ls hl => ?_)
  refine lv_iconst (v := 0) hx hb dX8_vanishesReal_4 (by decide) ?_
  refine lv_istore_n (lv' := [(3, .int (0 : Int32)), (2, .int (0 : Int32)), (1, .int (0 : Int32)), (0, .ref (E.2.1 61))]) hx hb dX8_vanishesReal_5 rfl hl (by decide) rfl (fun ls hl => ?_)
  obtain ⟨o6, σl6, hT6, hG⟩ := f_bd hG
  have T6 : ∀ (H : Heap) (locs : List Loc) (ls : Array Slot), f_h E σl6 H → va_S (f_A E) s.heap H locs → lv_has ls 4 [(1, .int o6.1), (2, .int o6.2)] → W p l e rm_X8_vanishesReal s m args below meth c H locs 0 0 Q (F0 m 66 ls []) := by
    intro H locs ls hP hS hl
    refine lv_iload_n hx hb dX8_vanishesReal_66 rfl (lv_at hl 0 rfl) ?_
    refine lv_if_eq (tgt := 78) hx hb dX8_vanishesReal_67 (by decide) (fun c67 => ?_) (fun c67 => ?_)
    · have hG := f_ip c67 hG
      refine lv_iconst (v := 0) hx hb dX8_vanishesReal_78 (by decide) ?_
      exact x_rz hR hS hP (Or.inl rfl) hG dX8_vanishesReal_79
    · have hG := f_in c67 hG
      refine lv_iload_n hx hb dX8_vanishesReal_70 rfl (lv_at hl 1 rfl) ?_
      refine lv_if_eq (tgt := 78) hx hb dX8_vanishesReal_71 (by decide) (fun c71 => ?_) (fun c71 => ?_)
      · have hG := f_ip c71 hG
        refine lv_iconst (v := 0) hx hb dX8_vanishesReal_78 (by decide) ?_
        exact x_rz hR hS hP (Or.inl rfl) hG dX8_vanishesReal_79
      · have hG := f_in c71 hG
        refine lv_iconst (v := 1) hx hb dX8_vanishesReal_74 (by decide) ?_
        refine lv_goto (tgt := 79) hx hb dX8_vanishesReal_75 (by decide) ?_
        exact x_rz hR hS hP (Or.inr rfl) hG dX8_vanishesReal_79
  have L6 : ∀ (n6 : Nat) (x6_1 : Int32) (x6_2 : Int32) (x6_3 : Int32) (σh6 : fS) (H : Heap) (locs : List Loc) (ls : Array Slot), f_h E σh6 H → va_S (f_A E) s.heap H locs → lv_has ls 4 [(0, .ref (E.2.1 61)), (1, .int x6_1), (2, .int x6_2), (3, .int x6_3)] → lp_X8_vanishesReal_6 N n6 x6_1 x6_2 x6_3 σh6 = some (o6, σl6) → W p l e rm_X8_vanishesReal s m args below meth c H locs 0 0 Q (F0 m 6 ls []) := by
    intro n6
    induction n6 with
    | zero =>
      intro x6_1 x6_2 x6_3 σh6 H locs ls hP hS hl hG
      rw [lp_X8_vanishesReal_6] at hG
      cases hG
    | succ n6 ih6 =>
      intro x6_1 x6_2 x6_3 σh6 H locs ls hP hS hl hG
      rw [lp_X8_vanishesReal_6] at hG
      refine lv_iload_n hx hb dX8_vanishesReal_6 rfl (lv_at hl 3 rfl) ?_
      refine lv_aload_n hx hb dX8_vanishesReal_7 rfl (lv_at hl 0 rfl) ?_
      refine gf_X8_106 F hP dX8_vanishesReal_8 ?_
      refine lv_icmp_ge (tgt := 66) hx hb dX8_vanishesReal_11 (by decide) (fun c11 => ?_) (fun c11 => ?_)
      · have hG := f_ip c11 hG
        cases hG
        exact T6 _ _ _ hP hS (lv_sub hl [1, 2] rfl)
      · have hG := f_in c11 hG
        refine lv_iload_n hx hb dX8_vanishesReal_14 rfl (lv_at hl 1 rfl) ?_
        obtain ⟨o15, σj15, hT15, hG⟩ := f_bd hG
        have T15 : ∀ (H : Heap) (locs : List Loc) (ls : Array Slot), f_h E σj15 H → va_S (f_A E) s.heap H locs → lv_has ls 4 [(0, .ref (E.2.1 61)), (2, .int x6_2), (3, .int x6_3)] → W p l e rm_X8_vanishesReal s m args below meth c H locs 0 0 Q (F0 m 36 ls [.int o15]) := by
          intro H locs ls hP hS hl
          refine lv_istore_n (lv' := [(1, .int o15), (0, .ref (E.2.1 61)), (2, .int x6_2), (3, .int x6_3)]) hx hb dX8_vanishesReal_36 rfl hl (by decide) rfl (fun ls hl => ?_)
          refine lv_iload_n hx hb dX8_vanishesReal_37 rfl (lv_at hl 2 rfl) ?_
          refine lv_if_ne (tgt := 54) hx hb dX8_vanishesReal_38 (by decide) (fun c38 => ?_) (fun c38 => ?_)
          · have hG := f_in c38 hG
            refine lv_iconst (v := 1) hx hb dX8_vanishesReal_54 (by decide) ?_
            refine lv_goto (tgt := 59) hx hb dX8_vanishesReal_55 (by decide) ?_
            refine lv_istore_n (lv' := [(2, .int (1 : Int32)), (1, .int o15), (0, .ref (E.2.1 61)), (3, .int x6_3)]) hx hb dX8_vanishesReal_59 rfl hl (by decide) rfl (fun ls hl => ?_)
            refine lv_iinc (v := (x6_3 + (1 : Int32))) (lv' := [(3, .int (x6_3 + (1 : Int32))), (2, .int (1 : Int32)), (1, .int o15), (0, .ref (E.2.1 61))]) hx hb dX8_vanishesReal_60 hl (k := 3) rfl (by rfl) (by decide) rfl (fun ls hl => ?_)
            refine lv_goto (tgt := 6) hx hb dX8_vanishesReal_63 (by decide) ?_
            exact ih6 o15 (1 : Int32) (x6_3 + (1 : Int32)) σj15 _ _ _ hP hS (lv_sub hl [3, 2, 1, 0] rfl) hG
          · have hG := f_ip c38 hG
            refine lv_aload_n hx hb dX8_vanishesReal_41 rfl (lv_at hl 1 rfl) ?_
            refine gf_X8_57 F hP dX8_vanishesReal_42 ?_
            refine lv_iload_n hx hb dX8_vanishesReal_45 rfl (lv_at hl 3 rfl) ?_
            obtain ⟨h46, hG⟩ := f_gd hG
            have i46 := f_fin h46
            refine x_iald F hP rfl rfl i46 dX8_vanishesReal_46 ?_
            refine lv_iconst (v := 0) hx hb dX8_vanishesReal_47 (by decide) ?_
            obtain ⟨r48, σ48, hC48, hG⟩ := f_bd hG
            refine iv_X8_85 F hS hP (c_X8_isIn l E N (σj15.1 77 (x6_3).toNatClampNeg) (0 : Int32) σj15 _ _ hC48) ⟨Nat.le_of_ble_eq_true rfl, Nat.le_of_ble_eq_true rfl⟩ hl.1 (Nat.le_of_ble_eq_true rfl) dX8_vanishesReal_48 ⟨Nat.zero_le _, Nat.zero_le _⟩ (fun H locs hP hS => ?_)
            refine lv_if_eq (tgt := 58) hx hb dX8_vanishesReal_51 (by decide) (fun c51 => ?_) (fun c51 => ?_)
            · have hG := f_ip c51 hG
              refine lv_iconst (v := 0) hx hb dX8_vanishesReal_58 (by decide) ?_
              refine lv_istore_n (lv' := [(2, .int (0 : Int32)), (1, .int o15), (0, .ref (E.2.1 61)), (3, .int x6_3)]) hx hb dX8_vanishesReal_59 rfl hl (by decide) rfl (fun ls hl => ?_)
              refine lv_iinc (v := (x6_3 + (1 : Int32))) (lv' := [(3, .int (x6_3 + (1 : Int32))), (2, .int (0 : Int32)), (1, .int o15), (0, .ref (E.2.1 61))]) hx hb dX8_vanishesReal_60 hl (k := 3) rfl (by rfl) (by decide) rfl (fun ls hl => ?_)
              refine lv_goto (tgt := 6) hx hb dX8_vanishesReal_63 (by decide) ?_
              exact ih6 o15 (0 : Int32) (x6_3 + (1 : Int32)) σ48 _ _ _ hP hS (lv_sub hl [3, 2, 1, 0] rfl) hG
            · have hG := f_in c51 hG
              refine lv_iconst (v := 1) hx hb dX8_vanishesReal_54 (by decide) ?_
              refine lv_goto (tgt := 59) hx hb dX8_vanishesReal_55 (by decide) ?_
              refine lv_istore_n (lv' := [(2, .int (1 : Int32)), (1, .int o15), (0, .ref (E.2.1 61)), (3, .int x6_3)]) hx hb dX8_vanishesReal_59 rfl hl (by decide) rfl (fun ls hl => ?_)
              refine lv_iinc (v := (x6_3 + (1 : Int32))) (lv' := [(3, .int (x6_3 + (1 : Int32))), (2, .int (1 : Int32)), (1, .int o15), (0, .ref (E.2.1 61))]) hx hb dX8_vanishesReal_60 hl (k := 3) rfl (by rfl) (by decide) rfl (fun ls hl => ?_)
              refine lv_goto (tgt := 6) hx hb dX8_vanishesReal_63 (by decide) ?_
              exact ih6 o15 (1 : Int32) (x6_3 + (1 : Int32)) σ48 _ _ _ hP hS (lv_sub hl [3, 2, 1, 0] rfl) hG
        have hG := hT15
        clear hT15
        refine lv_if_ne (tgt := 31) hx hb dX8_vanishesReal_15 (by decide) (fun c15 => ?_) (fun c15 => ?_)
        · have hG := f_in c15 hG
          refine lv_iconst (v := 1) hx hb dX8_vanishesReal_31 (by decide) ?_
          refine lv_goto (tgt := 36) hx hb dX8_vanishesReal_32 (by decide) ?_
          cases hG
          exact T15 _ _ _ hP hS (lv_sub hl [0, 2, 3] rfl)
        · have hG := f_ip c15 hG
          refine lv_aload_n hx hb dX8_vanishesReal_18 rfl (lv_at hl 0 rfl) ?_
          refine gf_X8_57 F hP dX8_vanishesReal_19 ?_
          refine lv_iload_n hx hb dX8_vanishesReal_22 rfl (lv_at hl 3 rfl) ?_
          obtain ⟨h23, hG⟩ := f_gd hG
          have i23 := f_fin h23
          refine x_iald F hP rfl rfl i23 dX8_vanishesReal_23 ?_
          refine lv_iconst (v := 0) hx hb dX8_vanishesReal_24 (by decide) ?_
          obtain ⟨r25, σ25, hC25, hG⟩ := f_bd hG
          refine iv_X8_85 F hS hP (c_X8_isIn l E N (σh6.1 77 (x6_3).toNatClampNeg) (0 : Int32) σh6 _ _ hC25) ⟨Nat.le_of_ble_eq_true rfl, Nat.le_of_ble_eq_true rfl⟩ hl.1 (Nat.le_of_ble_eq_true rfl) dX8_vanishesReal_25 ⟨Nat.zero_le _, Nat.zero_le _⟩ (fun H locs hP hS => ?_)
          refine lv_if_ne (tgt := 35) hx hb dX8_vanishesReal_28 (by decide) (fun c28 => ?_) (fun c28 => ?_)
          · have hG := f_in c28 hG
            refine lv_iconst (v := 0) hx hb dX8_vanishesReal_35 (by decide) ?_
            cases hG
            exact T15 _ _ _ hP hS (lv_sub hl [0, 2, 3] rfl)
          · have hG := f_ip c28 hG
            refine lv_iconst (v := 1) hx hb dX8_vanishesReal_31 (by decide) ?_
            refine lv_goto (tgt := 36) hx hb dX8_vanishesReal_32 (by decide) ?_
            cases hG
            exact T15 _ _ _ hP hS (lv_sub hl [0, 2, 3] rfl)
  exact L6 N (0 : Int32) (0 : Int32) (0 : Int32) σ _ _ _ hP hS (lv_sub hl [3, 2, 1, 0] rfl) hT6
theorem dX8_vanishes_0 : decode cX8_vanishes 0 = .ok (.iload_n 1, 1) := by decide +kernel
theorem dX8_vanishes_1 : decode cX8_vanishes 1 = .ok (.ifCond .ne 8, 3) := by decide +kernel
theorem dX8_vanishes_4 : decode cX8_vanishes 4 = .ok (.aload_n 0, 1) := by decide +kernel
theorem dX8_vanishes_5 : decode cX8_vanishes 5 = .ok (.invokevirtual 110, 3) := by decide +kernel
theorem dX8_vanishes_8 : decode cX8_vanishes 8 = .ok (.ireturn, 1) := by decide +kernel
theorem dX8_vanishes_9 : decode cX8_vanishes 9 = .ok (.iload_n 1, 1) := by decide +kernel
theorem dX8_vanishes_10 : decode cX8_vanishes 10 = .ok (.invokestatic 99, 3) := by decide +kernel
theorem dX8_vanishes_13 : decode cX8_vanishes 13 = .ok (.istore_n 2, 1) := by decide +kernel
theorem dX8_vanishes_14 : decode cX8_vanishes 14 = .ok (.iconst 0, 1) := by decide +kernel
theorem dX8_vanishes_15 : decode cX8_vanishes 15 = .ok (.istore_n 3, 1) := by decide +kernel
theorem dX8_vanishes_16 : decode cX8_vanishes 16 = .ok (.iload_n 3, 1) := by decide +kernel
theorem dX8_vanishes_17 : decode cX8_vanishes 17 = .ok (.iload_n 2, 1) := by decide +kernel
theorem dX8_vanishes_18 : decode cX8_vanishes 18 = .ok (.if_icmp .ge 31, 3) := by decide +kernel
theorem dX8_vanishes_21 : decode cX8_vanishes 21 = .ok (.aload_n 0, 1) := by decide +kernel
theorem dX8_vanishes_22 : decode cX8_vanishes 22 = .ok (.getfield 60, 3) := by decide +kernel
theorem dX8_vanishes_25 : decode cX8_vanishes 25 = .ok (.iload_n 3, 1) := by decide +kernel
theorem dX8_vanishes_26 : decode cX8_vanishes 26 = .ok (.iload_n 3, 1) := by decide +kernel
theorem dX8_vanishes_27 : decode cX8_vanishes 27 = .ok (.ifCond .ne 7, 3) := by decide +kernel
theorem dX8_vanishes_30 : decode cX8_vanishes 30 = .ok (.iconst 1, 1) := by decide +kernel
theorem dX8_vanishes_31 : decode cX8_vanishes 31 = .ok (.goto 4, 3) := by decide +kernel
theorem dX8_vanishes_34 : decode cX8_vanishes 34 = .ok (.iconst 0, 1) := by decide +kernel
theorem dX8_vanishes_35 : decode cX8_vanishes 35 = .ok (.bastore, 1) := by decide +kernel
theorem dX8_vanishes_36 : decode cX8_vanishes 36 = .ok (.aload_n 0, 1) := by decide +kernel
theorem dX8_vanishes_37 : decode cX8_vanishes 37 = .ok (.getfield 63, 3) := by decide +kernel
theorem dX8_vanishes_40 : decode cX8_vanishes 40 = .ok (.iload_n 3, 1) := by decide +kernel
theorem dX8_vanishes_41 : decode cX8_vanishes 41 = .ok (.iconst 0, 1) := by decide +kernel
theorem dX8_vanishes_42 : decode cX8_vanishes 42 = .ok (.bastore, 1) := by decide +kernel
theorem dX8_vanishes_43 : decode cX8_vanishes 43 = .ok (.iinc 3 1, 3) := by decide +kernel
theorem dX8_vanishes_46 : decode cX8_vanishes 46 = .ok (.goto (-30), 3) := by decide +kernel
theorem dX8_vanishes_49 : decode cX8_vanishes 49 = .ok (.iconst 0, 1) := by decide +kernel
theorem dX8_vanishes_50 : decode cX8_vanishes 50 = .ok (.istore_n 3, 1) := by decide +kernel
theorem dX8_vanishes_51 : decode cX8_vanishes 51 = .ok (.iload_n 3, 1) := by decide +kernel
theorem dX8_vanishes_52 : decode cX8_vanishes 52 = .ok (.aload_n 0, 1) := by decide +kernel
theorem dX8_vanishes_53 : decode cX8_vanishes 53 = .ok (.getfield 106, 3) := by decide +kernel
theorem dX8_vanishes_56 : decode cX8_vanishes 56 = .ok (.if_icmp .ge 27, 3) := by decide +kernel
theorem dX8_vanishes_59 : decode cX8_vanishes 59 = .ok (.aload_n 0, 1) := by decide +kernel
theorem dX8_vanishes_60 : decode cX8_vanishes 60 = .ok (.aload_n 0, 1) := by decide +kernel
theorem dX8_vanishes_61 : decode cX8_vanishes 61 = .ok (.getfield 57, 3) := by decide +kernel
theorem dX8_vanishes_64 : decode cX8_vanishes 64 = .ok (.iload_n 3, 1) := by decide +kernel
theorem dX8_vanishes_65 : decode cX8_vanishes 65 = .ok (.iaload, 1) := by decide +kernel
theorem dX8_vanishes_66 : decode cX8_vanishes 66 = .ok (.invokestatic 96, 3) := by decide +kernel
theorem dX8_vanishes_69 : decode cX8_vanishes 69 = .ok (.iload_n 2, 1) := by decide +kernel
theorem dX8_vanishes_70 : decode cX8_vanishes 70 = .ok (.iload_n 1, 1) := by decide +kernel
theorem dX8_vanishes_71 : decode cX8_vanishes 71 = .ok (.invokestatic 81, 3) := by decide +kernel
theorem dX8_vanishes_74 : decode cX8_vanishes 74 = .ok (.invokevirtual 114, 3) := by decide +kernel
theorem dX8_vanishes_77 : decode cX8_vanishes 77 = .ok (.iinc 3 1, 3) := by decide +kernel
theorem dX8_vanishes_80 : decode cX8_vanishes 80 = .ok (.goto (-29), 3) := by decide +kernel
theorem dX8_vanishes_83 : decode cX8_vanishes 83 = .ok (.aload_n 0, 1) := by decide +kernel
theorem dX8_vanishes_84 : decode cX8_vanishes 84 = .ok (.getfield 63, 3) := by decide +kernel
theorem dX8_vanishes_87 : decode cX8_vanishes 87 = .ok (.iconst 0, 1) := by decide +kernel
theorem dX8_vanishes_88 : decode cX8_vanishes 88 = .ok (.baload, 1) := by decide +kernel
theorem dX8_vanishes_89 : decode cX8_vanishes 89 = .ok (.ireturn, 1) := by decide +kernel
set_option maxHeartbeats 4000000 in
set_option maxRecDepth 100000 in
theorem c_X8_vanishes (l : Launch) (E : fEv) (N : Nat) (a1 : Int32) (σ : fS) (r : Int32) (τ : fS) (hG : g_X8_vanishes N a1 σ = some (r, τ)) : fM l E yX8_vanishes (.code yX8_vanishes cX8_vanishes 4 (some .boolean)) rm_X8_vanishes [.ref (E.2.1 61), .int a1] σ τ (some (.int r)) := by
  refine f_openZ (by decide) (Nat.le_of_ble_eq_true rfl) ?_
  intro p e s m below meth c args Q F hR hP ls hl
  have hx := F.1.1
  have hb := F.1.2.1
  have hown := F.1.2.2.2.1
  have hts := F.1.2.2.2.2
  have hS : va_S (f_A E) s.heap s.heap [] := va_S.rf
  skip
  have hl : lv_has ls 4 [(0, .ref (E.2.1 61)), (1, .int a1)] := hl
  unfold g_X8_vanishes at hG
  refine lv_iload_n hx hb dX8_vanishes_0 rfl (lv_at hl 1 rfl) ?_
  refine lv_if_ne (tgt := 9) hx hb dX8_vanishes_1 (by decide) (fun c1 => ?_) (fun c1 => ?_)
  · have hG := f_in c1 hG
    refine lv_iload_n hx hb dX8_vanishes_9 rfl (lv_at hl 1 rfl) ?_
    obtain ⟨r10, σ10, hC10, hG⟩ := f_bd hG
    refine iv_X8_99 F hS hP (c_X8_modAt l E N a1 σ _ _ hC10) ⟨Nat.le_of_ble_eq_true rfl, Nat.le_of_ble_eq_true rfl⟩ hl.1 (Nat.le_of_ble_eq_true rfl) dX8_vanishes_10 ⟨Nat.zero_le _, Nat.zero_le _⟩ (fun H locs hP hS => ?_)
    refine lv_istore_n (lv' := [(2, .int r10), (0, .ref (E.2.1 61)), (1, .int a1)]) hx hb dX8_vanishes_13 rfl hl (by decide) rfl (fun ls hl => ?_)
    refine lv_iconst (v := 0) hx hb dX8_vanishes_14 (by decide) ?_
    refine lv_istore_n (lv' := [(3, .int (0 : Int32)), (2, .int r10), (0, .ref (E.2.1 61)), (1, .int a1)]) hx hb dX8_vanishes_15 rfl hl (by decide) rfl (fun ls hl => ?_)
    obtain ⟨σl16, hT16, hG⟩ := f_bv hG
    have T16 : ∀ (H : Heap) (locs : List Loc) (ls : Array Slot), f_h E σl16 H → va_S (f_A E) s.heap H locs → lv_has ls 4 [(0, .ref (E.2.1 61)), (1, .int a1), (2, .int r10)] → W p l e rm_X8_vanishes s m args below meth c H locs 0 0 Q (F0 m 49 ls []) := by
      intro H locs ls hP hS hl
      refine lv_iconst (v := 0) hx hb dX8_vanishes_49 (by decide) ?_
      refine lv_istore_n (lv' := [(3, .int (0 : Int32)), (0, .ref (E.2.1 61)), (1, .int a1), (2, .int r10)]) hx hb dX8_vanishes_50 rfl hl (by decide) rfl (fun ls hl => ?_)
      obtain ⟨σl51, hT51, hG⟩ := f_bv hG
      have T51 : ∀ (H : Heap) (locs : List Loc) (ls : Array Slot), f_h E σl51 H → va_S (f_A E) s.heap H locs → lv_has ls 4 [(0, .ref (E.2.1 61))] → W p l e rm_X8_vanishes s m args below meth c H locs 0 0 Q (F0 m 83 ls []) := by
        intro H locs ls hP hS hl
        refine lv_aload_n hx hb dX8_vanishes_83 rfl (lv_at hl 0 rfl) ?_
        refine gf_X8_63 F hP dX8_vanishes_84 ?_
        refine lv_iconst (v := 0) hx hb dX8_vanishes_87 (by decide) ?_
        obtain ⟨h88, hG⟩ := f_gd hG
        have i88 := f_fin h88
        refine x_zald F hP rfl rfl i88 dX8_vanishes_88 ?_
        obtain ⟨h89, hG⟩ := f_gd hG
        exact x_rz hR hS hP (f_isB h89) hG dX8_vanishes_89
      have L51 : ∀ (n51 : Nat) (x51_3 : Int32) (σh51 : fS) (H : Heap) (locs : List Loc) (ls : Array Slot), f_h E σh51 H → va_S (f_A E) s.heap H locs → lv_has ls 4 [(0, .ref (E.2.1 61)), (1, .int a1), (2, .int r10), (3, .int x51_3)] → lp_X8_vanishes_51 N a1 r10 n51 x51_3 σh51 = some σl51 → W p l e rm_X8_vanishes s m args below meth c H locs 0 0 Q (F0 m 51 ls []) := by
        intro n51
        induction n51 with
        | zero =>
          intro x51_3 σh51 H locs ls hP hS hl hG
          rw [lp_X8_vanishes_51] at hG
          cases hG
        | succ n51 ih51 =>
          intro x51_3 σh51 H locs ls hP hS hl hG
          rw [lp_X8_vanishes_51] at hG
          refine lv_iload_n hx hb dX8_vanishes_51 rfl (lv_at hl 3 rfl) ?_
          refine lv_aload_n hx hb dX8_vanishes_52 rfl (lv_at hl 0 rfl) ?_
          refine gf_X8_106 F hP dX8_vanishes_53 ?_
          refine lv_icmp_ge (tgt := 83) hx hb dX8_vanishes_56 (by decide) (fun c56 => ?_) (fun c56 => ?_)
          · have hG := f_ip c56 hG
            cases hG
            exact T51 _ _ _ hP hS (lv_sub hl [0] rfl)
          · have hG := f_in c56 hG
            refine lv_aload_n hx hb dX8_vanishes_59 rfl (lv_at hl 0 rfl) ?_
            refine lv_aload_n hx hb dX8_vanishes_60 rfl (lv_at hl 0 rfl) ?_
            refine gf_X8_57 F hP dX8_vanishes_61 ?_
            refine lv_iload_n hx hb dX8_vanishes_64 rfl (lv_at hl 3 rfl) ?_
            obtain ⟨h65, hG⟩ := f_gd hG
            have i65 := f_fin h65
            refine x_iald F hP rfl rfl i65 dX8_vanishes_65 ?_
            obtain ⟨r66, σ66, hC66, hG⟩ := f_bd hG
            refine iv_X8_96 F hS hP (c_X8_coreOf l E N (σh51.1 77 (x51_3).toNatClampNeg) σh51 _ _ hC66) ⟨Nat.le_of_ble_eq_true rfl, Nat.le_of_ble_eq_true rfl⟩ hl.1 (Nat.le_of_ble_eq_true rfl) dX8_vanishes_66 ⟨Nat.zero_le _, Nat.zero_le _⟩ (fun H locs hP hS => ?_)
            refine lv_iload_n hx hb dX8_vanishes_69 rfl (lv_at hl 2 rfl) ?_
            refine lv_iload_n hx hb dX8_vanishes_70 rfl (lv_at hl 1 rfl) ?_
            obtain ⟨r71, σ71, hC71, hG⟩ := f_bd hG
            refine iv_X8_81 F hS hP (c_X8_primeAt l E N a1 σ66 _ _ hC71) ⟨Nat.le_of_ble_eq_true rfl, Nat.le_of_ble_eq_true rfl⟩ hl.1 (Nat.le_of_ble_eq_true rfl) dX8_vanishes_71 ⟨Nat.zero_le _, Nat.zero_le _⟩ (fun H locs hP hS => ?_)
            obtain ⟨σ74, hC74, hG⟩ := f_bv hG
            refine iv_X8_114 F hS hP (c_X8_addTerm l E N r66 r10 r71 σ71 _ hC74) ⟨Nat.le_of_ble_eq_true rfl, Nat.le_of_ble_eq_true rfl⟩ hl.1 (Nat.le_of_ble_eq_true rfl) dX8_vanishes_74 ⟨Nat.zero_le _, Nat.zero_le _⟩ (fun H locs hP hS => ?_)
            refine lv_iinc (v := (x51_3 + (1 : Int32))) (lv' := [(3, .int (x51_3 + (1 : Int32))), (0, .ref (E.2.1 61)), (1, .int a1), (2, .int r10)]) hx hb dX8_vanishes_77 hl (k := 3) rfl (by rfl) (by decide) rfl (fun ls hl => ?_)
            refine lv_goto (tgt := 51) hx hb dX8_vanishes_80 (by decide) ?_
            exact ih51 (x51_3 + (1 : Int32)) σ74 _ _ _ hP hS (lv_sub hl [1, 2, 3, 0] rfl) hG
      exact L51 N (0 : Int32) σl16 _ _ _ hP hS (lv_sub hl [1, 2, 3, 0] rfl) hT51
    have L16 : ∀ (n16 : Nat) (x16_3 : Int32) (σh16 : fS) (H : Heap) (locs : List Loc) (ls : Array Slot), f_h E σh16 H → va_S (f_A E) s.heap H locs → lv_has ls 4 [(0, .ref (E.2.1 61)), (1, .int a1), (2, .int r10), (3, .int x16_3)] → lp_X8_vanishes_16 N a1 r10 n16 x16_3 σh16 = some σl16 → W p l e rm_X8_vanishes s m args below meth c H locs 0 0 Q (F0 m 16 ls []) := by
      intro n16
      induction n16 with
      | zero =>
        intro x16_3 σh16 H locs ls hP hS hl hG
        rw [lp_X8_vanishes_16] at hG
        cases hG
      | succ n16 ih16 =>
        intro x16_3 σh16 H locs ls hP hS hl hG
        rw [lp_X8_vanishes_16] at hG
        refine lv_iload_n hx hb dX8_vanishes_16 rfl (lv_at hl 3 rfl) ?_
        refine lv_iload_n hx hb dX8_vanishes_17 rfl (lv_at hl 2 rfl) ?_
        refine lv_icmp_ge (tgt := 49) hx hb dX8_vanishes_18 (by decide) (fun c18 => ?_) (fun c18 => ?_)
        · have hG := f_ip c18 hG
          cases hG
          exact T16 _ _ _ hP hS (lv_sub hl [0, 1, 2] rfl)
        · have hG := f_in c18 hG
          refine lv_aload_n hx hb dX8_vanishes_21 rfl (lv_at hl 0 rfl) ?_
          refine gf_X8_60 F hP dX8_vanishes_22 ?_
          refine lv_iload_n hx hb dX8_vanishes_25 rfl (lv_at hl 3 rfl) ?_
          refine lv_iload_n hx hb dX8_vanishes_26 rfl (lv_at hl 3 rfl) ?_
          obtain ⟨o27, σj27, hT27, hG⟩ := f_bd hG
          have T27 : ∀ (H : Heap) (locs : List Loc) (ls : Array Slot), f_h E σj27 H → va_S (f_A E) s.heap H locs → lv_has ls 4 [(0, .ref (E.2.1 61)), (1, .int a1), (2, .int r10), (3, .int x16_3)] → W p l e rm_X8_vanishes s m args below meth c H locs 0 0 Q (F0 m 35 ls [.int o27, .int x16_3, .ref (E.2.1 78)]) := by
            intro H locs ls hP hS hl
            obtain ⟨h35, hG⟩ := f_gd hG
            have i35 := f_fin h35
            obtain ⟨z35, hG⟩ := f_gd hG
            refine x_zast F hS hP rfl rfl (x_zB _ (f_isB z35)) i35 dX8_vanishes_35 (fun H locs hP hS => ?_)
            obtain ⟨σ35, e35⟩ : ∃ t : fS, t = sI σj27 78 (x16_3).toNatClampNeg o27 := ⟨_, rfl⟩
            rw [← e35] at hP
            have hG := f_lt hG e35
            refine lv_aload_n hx hb dX8_vanishes_36 rfl (lv_at hl 0 rfl) ?_
            refine gf_X8_63 F hP dX8_vanishes_37 ?_
            refine lv_iload_n hx hb dX8_vanishes_40 rfl (lv_at hl 3 rfl) ?_
            refine lv_iconst (v := 0) hx hb dX8_vanishes_41 (by decide) ?_
            obtain ⟨h42, hG⟩ := f_gd hG
            have i42 := f_fin h42
            refine x_zast F hS hP rfl rfl (x_zB _ (Or.inl rfl)) i42 dX8_vanishes_42 (fun H locs hP hS => ?_)
            obtain ⟨σ42, e42⟩ : ∃ t : fS, t = sI σ35 79 (x16_3).toNatClampNeg (0 : Int32) := ⟨_, rfl⟩
            rw [← e42] at hP
            have hG := f_lt hG e42
            refine lv_iinc (v := (x16_3 + (1 : Int32))) (lv' := [(3, .int (x16_3 + (1 : Int32))), (0, .ref (E.2.1 61)), (1, .int a1), (2, .int r10)]) hx hb dX8_vanishes_43 hl (k := 3) rfl (by rfl) (by decide) rfl (fun ls hl => ?_)
            refine lv_goto (tgt := 16) hx hb dX8_vanishes_46 (by decide) ?_
            exact ih16 (x16_3 + (1 : Int32)) σ42 _ _ _ hP hS (lv_sub hl [1, 2, 3, 0] rfl) hG
          have hG := hT27
          clear hT27
          refine lv_if_ne (tgt := 34) hx hb dX8_vanishes_27 (by decide) (fun c27 => ?_) (fun c27 => ?_)
          · have hG := f_in c27 hG
            refine lv_iconst (v := 0) hx hb dX8_vanishes_34 (by decide) ?_
            cases hG
            exact T27 _ _ _ hP hS (lv_sub hl [0, 1, 2, 3] rfl)
          · have hG := f_ip c27 hG
            refine lv_iconst (v := 1) hx hb dX8_vanishes_30 (by decide) ?_
            refine lv_goto (tgt := 35) hx hb dX8_vanishes_31 (by decide) ?_
            cases hG
            exact T27 _ _ _ hP hS (lv_sub hl [0, 1, 2, 3] rfl)
    exact L16 N (0 : Int32) σ10 _ _ _ hP hS (lv_sub hl [2, 3, 1, 0] rfl) hT16
  · have hG := f_ip c1 hG
    refine lv_aload_n hx hb dX8_vanishes_4 rfl (lv_at hl 0 rfl) ?_
    obtain ⟨r5, σ5, hC5, hG⟩ := f_bd hG
    refine iv_X8_110 F hS hP (c_X8_vanishesReal l E N σ _ _ hC5) ⟨Nat.le_of_ble_eq_true rfl, Nat.le_of_ble_eq_true rfl⟩ hl.1 (Nat.le_of_ble_eq_true rfl) dX8_vanishes_5 ⟨Nat.zero_le _, Nat.zero_le _⟩ (fun H locs hP hS => ?_)
    obtain ⟨h8, hG⟩ := f_gd hG
    exact x_rz hR hS hP (f_isB h8) hG dX8_vanishes_8
theorem dX8_barsNow_0 : decode cX8_barsNow 0 = .ok (.iconst 0, 1) := by decide +kernel
theorem dX8_barsNow_1 : decode cX8_barsNow 1 = .ok (.istore_n 1, 1) := by decide +kernel
theorem dX8_barsNow_2 : decode cX8_barsNow 2 = .ok (.iconst 0, 1) := by decide +kernel
theorem dX8_barsNow_3 : decode cX8_barsNow 3 = .ok (.istore_n 2, 1) := by decide +kernel
theorem dX8_barsNow_4 : decode cX8_barsNow 4 = .ok (.iload_n 2, 1) := by decide +kernel
theorem dX8_barsNow_5 : decode cX8_barsNow 5 = .ok (.bipush 7, 2) := by decide +kernel
theorem dX8_barsNow_7 : decode cX8_barsNow 7 = .ok (.if_icmp .ge 27, 3) := by decide +kernel
theorem dX8_barsNow_10 : decode cX8_barsNow 10 = .ok (.iload_n 1, 1) := by decide +kernel
theorem dX8_barsNow_11 : decode cX8_barsNow 11 = .ok (.aload_n 0, 1) := by decide +kernel
theorem dX8_barsNow_12 : decode cX8_barsNow 12 = .ok (.iload_n 2, 1) := by decide +kernel
theorem dX8_barsNow_13 : decode cX8_barsNow 13 = .ok (.invokevirtual 118, 3) := by decide +kernel
theorem dX8_barsNow_16 : decode cX8_barsNow 16 = .ok (.ifCond .eq 7, 3) := by decide +kernel
theorem dX8_barsNow_19 : decode cX8_barsNow 19 = .ok (.iconst 0, 1) := by decide +kernel
theorem dX8_barsNow_20 : decode cX8_barsNow 20 = .ok (.goto 6, 3) := by decide +kernel
theorem dX8_barsNow_23 : decode cX8_barsNow 23 = .ok (.iconst 1, 1) := by decide +kernel
theorem dX8_barsNow_24 : decode cX8_barsNow 24 = .ok (.iload_n 2, 1) := by decide +kernel
theorem dX8_barsNow_25 : decode cX8_barsNow 25 = .ok (.ishl, 1) := by decide +kernel
theorem dX8_barsNow_26 : decode cX8_barsNow 26 = .ok (.ior, 1) := by decide +kernel
theorem dX8_barsNow_27 : decode cX8_barsNow 27 = .ok (.istore_n 1, 1) := by decide +kernel
theorem dX8_barsNow_28 : decode cX8_barsNow 28 = .ok (.iinc 2 1, 3) := by decide +kernel
theorem dX8_barsNow_31 : decode cX8_barsNow 31 = .ok (.goto (-27), 3) := by decide +kernel
theorem dX8_barsNow_34 : decode cX8_barsNow 34 = .ok (.iload_n 1, 1) := by decide +kernel
theorem dX8_barsNow_35 : decode cX8_barsNow 35 = .ok (.ireturn, 1) := by decide +kernel
set_option maxHeartbeats 4000000 in
set_option maxRecDepth 100000 in
theorem c_X8_barsNow (l : Launch) (E : fEv) (N : Nat)  (σ : fS) (r : Int32) (τ : fS) (hG : g_X8_barsNow N  σ = some (r, τ)) : fM l E yX8_barsNow (.code yX8_barsNow cX8_barsNow 3 (some .int)) rm_X8_barsNow [.ref (E.2.1 61)] σ τ (some (.int r)) := by
  refine f_openI (by decide) (Nat.le_of_ble_eq_true rfl) ?_
  intro p e s m below meth c args Q F hR hP ls hl
  have hx := F.1.1
  have hb := F.1.2.1
  have hown := F.1.2.2.2.1
  have hts := F.1.2.2.2.2
  have hS : va_S (f_A E) s.heap s.heap [] := va_S.rf
  skip
  have hl : lv_has ls 3 [(0, .ref (E.2.1 61))] := hl
  unfold g_X8_barsNow at hG
  refine lv_iconst (v := 0) hx hb dX8_barsNow_0 (by decide) ?_
  refine lv_istore_n (lv' := [(1, .int (0 : Int32)), (0, .ref (E.2.1 61))]) hx hb dX8_barsNow_1 rfl hl (by decide) rfl (fun ls hl => ?_)
  refine lv_iconst (v := 0) hx hb dX8_barsNow_2 (by decide) ?_
  refine lv_istore_n (lv' := [(2, .int (0 : Int32)), (1, .int (0 : Int32)), (0, .ref (E.2.1 61))]) hx hb dX8_barsNow_3 rfl hl (by decide) rfl (fun ls hl => ?_)
  obtain ⟨o4, σl4, hT4, hG⟩ := f_bd hG
  have T4 : ∀ (H : Heap) (locs : List Loc) (ls : Array Slot), f_h E σl4 H → va_S (f_A E) s.heap H locs → lv_has ls 3 [(1, .int o4)] → W p l e rm_X8_barsNow s m args below meth c H locs 0 0 Q (F0 m 34 ls []) := by
    intro H locs ls hP hS hl
    refine lv_iload_n hx hb dX8_barsNow_34 rfl (lv_at hl 0 rfl) ?_
    exact x_ri hR hS hP hG dX8_barsNow_35
  have L4 : ∀ (n4 : Nat) (x4_1 : Int32) (x4_2 : Int32) (σh4 : fS) (H : Heap) (locs : List Loc) (ls : Array Slot), f_h E σh4 H → va_S (f_A E) s.heap H locs → lv_has ls 3 [(0, .ref (E.2.1 61)), (1, .int x4_1), (2, .int x4_2)] → lp_X8_barsNow_4 N n4 x4_1 x4_2 σh4 = some (o4, σl4) → W p l e rm_X8_barsNow s m args below meth c H locs 0 0 Q (F0 m 4 ls []) := by
    intro n4
    induction n4 with
    | zero =>
      intro x4_1 x4_2 σh4 H locs ls hP hS hl hG
      rw [lp_X8_barsNow_4] at hG
      cases hG
    | succ n4 ih4 =>
      intro x4_1 x4_2 σh4 H locs ls hP hS hl hG
      rw [lp_X8_barsNow_4] at hG
      refine lv_iload_n hx hb dX8_barsNow_4 rfl (lv_at hl 2 rfl) ?_
      refine lv_bipush (v := 7) hx hb dX8_barsNow_5 (by decide) ?_
      refine lv_icmp_ge (tgt := 34) hx hb dX8_barsNow_7 (by decide) (fun c7 => ?_) (fun c7 => ?_)
      · have hG := f_ip c7 hG
        cases hG
        exact T4 _ _ _ hP hS (lv_sub hl [1] rfl)
      · have hG := f_in c7 hG
        refine lv_iload_n hx hb dX8_barsNow_10 rfl (lv_at hl 1 rfl) ?_
        refine lv_aload_n hx hb dX8_barsNow_11 rfl (lv_at hl 0 rfl) ?_
        refine lv_iload_n hx hb dX8_barsNow_12 rfl (lv_at hl 2 rfl) ?_
        obtain ⟨r13, σ13, hC13, hG⟩ := f_bd hG
        refine iv_X8_118 F hS hP (c_X8_vanishes l E N x4_2 σh4 _ _ hC13) ⟨Nat.le_of_ble_eq_true rfl, Nat.le_of_ble_eq_true rfl⟩ hl.1 (Nat.le_of_ble_eq_true rfl) dX8_barsNow_13 ⟨Nat.zero_le _, Nat.zero_le _⟩ (fun H locs hP hS => ?_)
        refine lv_if_eq (tgt := 23) hx hb dX8_barsNow_16 (by decide) (fun c16 => ?_) (fun c16 => ?_)
        · have hG := f_ip c16 hG
          refine lv_iconst (v := 1) hx hb dX8_barsNow_23 (by decide) ?_
          refine lv_iload_n hx hb dX8_barsNow_24 rfl (lv_at hl 2 rfl) ?_
          refine lv_ishl hx hb dX8_barsNow_25 ?_
          refine lv_ior hx hb dX8_barsNow_26 ?_
          refine lv_topi (fun v27 e27 => ?_)
          have hG := f_lt hG e27
          refine lv_istore_n (lv' := [(1, .int v27), (0, .ref (E.2.1 61)), (2, .int x4_2)]) hx hb dX8_barsNow_27 rfl hl (by decide) rfl (fun ls hl => ?_)
          refine lv_iinc (v := (x4_2 + (1 : Int32))) (lv' := [(2, .int (x4_2 + (1 : Int32))), (1, .int v27), (0, .ref (E.2.1 61))]) hx hb dX8_barsNow_28 hl (k := 2) rfl (by rfl) (by decide) rfl (fun ls hl => ?_)
          refine lv_goto (tgt := 4) hx hb dX8_barsNow_31 (by decide) ?_
          exact ih4 v27 (x4_2 + (1 : Int32)) σ13 _ _ _ hP hS (lv_sub hl [2, 1, 0] rfl) hG
        · have hG := f_in c16 hG
          refine lv_iconst (v := 0) hx hb dX8_barsNow_19 (by decide) ?_
          refine lv_goto (tgt := 26) hx hb dX8_barsNow_20 (by decide) ?_
          refine lv_ior hx hb dX8_barsNow_26 ?_
          refine lv_topi (fun v27 e27 => ?_)
          have hG := f_lt hG e27
          refine lv_istore_n (lv' := [(1, .int v27), (0, .ref (E.2.1 61)), (2, .int x4_2)]) hx hb dX8_barsNow_27 rfl hl (by decide) rfl (fun ls hl => ?_)
          refine lv_iinc (v := (x4_2 + (1 : Int32))) (lv' := [(2, .int (x4_2 + (1 : Int32))), (1, .int v27), (0, .ref (E.2.1 61))]) hx hb dX8_barsNow_28 hl (k := 2) rfl (by rfl) (by decide) rfl (fun ls hl => ?_)
          refine lv_goto (tgt := 4) hx hb dX8_barsNow_31 (by decide) ?_
          exact ih4 v27 (x4_2 + (1 : Int32)) σ13 _ _ _ hP hS (lv_sub hl [2, 1, 0] rfl) hG
  exact L4 N (0 : Int32) (0 : Int32) σ _ _ _ hP hS (lv_sub hl [2, 1, 0] rfl) hT4
theorem dX8_symbolNow_0 : decode cX8_symbolNow 0 = .ok (.aload_n 0, 1) := by decide +kernel
theorem dX8_symbolNow_1 : decode cX8_symbolNow 1 = .ok (.iconst 3, 1) := by decide +kernel
theorem dX8_symbolNow_2 : decode cX8_symbolNow 2 = .ok (.putfield 106, 3) := by decide +kernel
theorem dX8_symbolNow_5 : decode cX8_symbolNow 5 = .ok (.aload_n 0, 1) := by decide +kernel
theorem dX8_symbolNow_6 : decode cX8_symbolNow 6 = .ok (.getfield 57, 3) := by decide +kernel
theorem dX8_symbolNow_9 : decode cX8_symbolNow 9 = .ok (.iconst 0, 1) := by decide +kernel
theorem dX8_symbolNow_10 : decode cX8_symbolNow 10 = .ok (.iload_n 1, 1) := by decide +kernel
theorem dX8_symbolNow_11 : decode cX8_symbolNow 11 = .ok (.iastore, 1) := by decide +kernel
theorem dX8_symbolNow_12 : decode cX8_symbolNow 12 = .ok (.aload_n 0, 1) := by decide +kernel
theorem dX8_symbolNow_13 : decode cX8_symbolNow 13 = .ok (.getfield 57, 3) := by decide +kernel
theorem dX8_symbolNow_16 : decode cX8_symbolNow 16 = .ok (.iconst 1, 1) := by decide +kernel
theorem dX8_symbolNow_17 : decode cX8_symbolNow 17 = .ok (.iload_n 2, 1) := by decide +kernel
theorem dX8_symbolNow_18 : decode cX8_symbolNow 18 = .ok (.iastore, 1) := by decide +kernel
theorem dX8_symbolNow_19 : decode cX8_symbolNow 19 = .ok (.aload_n 0, 1) := by decide +kernel
theorem dX8_symbolNow_20 : decode cX8_symbolNow 20 = .ok (.getfield 57, 3) := by decide +kernel
theorem dX8_symbolNow_23 : decode cX8_symbolNow 23 = .ok (.iconst 2, 1) := by decide +kernel
theorem dX8_symbolNow_24 : decode cX8_symbolNow 24 = .ok (.iconst 1, 1) := by decide +kernel
theorem dX8_symbolNow_25 : decode cX8_symbolNow 25 = .ok (.iastore, 1) := by decide +kernel
theorem dX8_symbolNow_26 : decode cX8_symbolNow 26 = .ok (.aload_n 0, 1) := by decide +kernel
theorem dX8_symbolNow_27 : decode cX8_symbolNow 27 = .ok (.iload_n 3, 1) := by decide +kernel
theorem dX8_symbolNow_28 : decode cX8_symbolNow 28 = .ok (.invokevirtual 118, 3) := by decide +kernel
theorem dX8_symbolNow_31 : decode cX8_symbolNow 31 = .ok (.ifCond .eq 7, 3) := by decide +kernel
theorem dX8_symbolNow_34 : decode cX8_symbolNow 34 = .ok (.iconst 1, 1) := by decide +kernel
theorem dX8_symbolNow_35 : decode cX8_symbolNow 35 = .ok (.goto 4, 3) := by decide +kernel
theorem dX8_symbolNow_38 : decode cX8_symbolNow 38 = .ok (.iconst (-1), 1) := by decide +kernel
theorem dX8_symbolNow_39 : decode cX8_symbolNow 39 = .ok (.ireturn, 1) := by decide +kernel
set_option maxHeartbeats 4000000 in
set_option maxRecDepth 100000 in
theorem c_X8_symbolNow (l : Launch) (E : fEv) (N : Nat) (a1 : Int32) (a2 : Int32) (a3 : Int32) (σ : fS) (r : Int32) (τ : fS) (hG : g_X8_symbolNow N a1 a2 a3 σ = some (r, τ)) : fM l E yX8_symbolNow (.code yX8_symbolNow cX8_symbolNow 4 (some .int)) rm_X8_symbolNow [.ref (E.2.1 61), .int a1, .int a2, .int a3] σ τ (some (.int r)) := by
  refine f_openI (by decide) (Nat.le_of_ble_eq_true rfl) ?_
  intro p e s m below meth c args Q F hR hP ls hl
  have hx := F.1.1
  have hb := F.1.2.1
  have hown := F.1.2.2.2.1
  have hts := F.1.2.2.2.2
  have hS : va_S (f_A E) s.heap s.heap [] := va_S.rf
  skip
  have hl : lv_has ls 4 [(0, .ref (E.2.1 61)), (1, .int a1), (2, .int a2), (3, .int a3)] := hl
  unfold g_X8_symbolNow at hG
  refine lv_aload_n hx hb dX8_symbolNow_0 rfl (lv_at hl 0 rfl) ?_
  refine lv_iconst (v := 3) hx hb dX8_symbolNow_1 (by decide) ?_
  refine pf_X8_106 F hS hP dX8_symbolNow_2 (fun H locs hP hS => ?_)
  obtain ⟨σ2, e2⟩ : ∃ t : fS, t = sI σ 61 21 (3 : Int32) := ⟨_, rfl⟩
  rw [← e2] at hP
  have hG := f_lt hG e2
  refine lv_aload_n hx hb dX8_symbolNow_5 rfl (lv_at hl 0 rfl) ?_
  refine gf_X8_57 F hP dX8_symbolNow_6 ?_
  refine lv_iconst (v := 0) hx hb dX8_symbolNow_9 (by decide) ?_
  refine lv_iload_n hx hb dX8_symbolNow_10 rfl (lv_at hl 1 rfl) ?_
  obtain ⟨h11, hG⟩ := f_gd hG
  have i11 := f_fin h11
  refine x_iast F hS hP rfl rfl i11 dX8_symbolNow_11 (fun H locs hP hS => ?_)
  obtain ⟨σ11, e11⟩ : ∃ t : fS, t = sI σ2 77 ((0 : Int32)).toNatClampNeg a1 := ⟨_, rfl⟩
  rw [← e11] at hP
  have hG := f_lt hG e11
  refine lv_aload_n hx hb dX8_symbolNow_12 rfl (lv_at hl 0 rfl) ?_
  refine gf_X8_57 F hP dX8_symbolNow_13 ?_
  refine lv_iconst (v := 1) hx hb dX8_symbolNow_16 (by decide) ?_
  refine lv_iload_n hx hb dX8_symbolNow_17 rfl (lv_at hl 2 rfl) ?_
  obtain ⟨h18, hG⟩ := f_gd hG
  have i18 := f_fin h18
  refine x_iast F hS hP rfl rfl i18 dX8_symbolNow_18 (fun H locs hP hS => ?_)
  obtain ⟨σ18, e18⟩ : ∃ t : fS, t = sI σ11 77 ((1 : Int32)).toNatClampNeg a2 := ⟨_, rfl⟩
  rw [← e18] at hP
  have hG := f_lt hG e18
  refine lv_aload_n hx hb dX8_symbolNow_19 rfl (lv_at hl 0 rfl) ?_
  refine gf_X8_57 F hP dX8_symbolNow_20 ?_
  refine lv_iconst (v := 2) hx hb dX8_symbolNow_23 (by decide) ?_
  refine lv_iconst (v := 1) hx hb dX8_symbolNow_24 (by decide) ?_
  obtain ⟨h25, hG⟩ := f_gd hG
  have i25 := f_fin h25
  refine x_iast F hS hP rfl rfl i25 dX8_symbolNow_25 (fun H locs hP hS => ?_)
  obtain ⟨σ25, e25⟩ : ∃ t : fS, t = sI σ18 77 ((2 : Int32)).toNatClampNeg (1 : Int32) := ⟨_, rfl⟩
  rw [← e25] at hP
  have hG := f_lt hG e25
  refine lv_aload_n hx hb dX8_symbolNow_26 rfl (lv_at hl 0 rfl) ?_
  refine lv_iload_n hx hb dX8_symbolNow_27 rfl (lv_at hl 3 rfl) ?_
  obtain ⟨r28, σ28, hC28, hG⟩ := f_bd hG
  refine iv_X8_118 F hS hP (c_X8_vanishes l E N a3 σ25 _ _ hC28) ⟨Nat.le_of_ble_eq_true rfl, Nat.le_of_ble_eq_true rfl⟩ hl.1 (Nat.le_of_ble_eq_true rfl) dX8_symbolNow_28 ⟨Nat.zero_le _, Nat.zero_le _⟩ (fun H locs hP hS => ?_)
  refine lv_if_eq (tgt := 38) hx hb dX8_symbolNow_31 (by decide) (fun c31 => ?_) (fun c31 => ?_)
  · have hG := f_ip c31 hG
    refine lv_iconst (v := -1) hx hb dX8_symbolNow_38 (by decide) ?_
    exact x_ri hR hS hP hG dX8_symbolNow_39
  · have hG := f_in c31 hG
    refine lv_iconst (v := 1) hx hb dX8_symbolNow_34 (by decide) ?_
    refine lv_goto (tgt := 39) hx hb dX8_symbolNow_35 (by decide) ?_
    exact x_ri hR hS hP hG dX8_symbolNow_39
theorem dX8_unlike_0 : decode cX8_unlike 0 = .ok (.iconst 0, 1) := by decide +kernel
theorem dX8_unlike_1 : decode cX8_unlike 1 = .ok (.istore_n 3, 1) := by decide +kernel
theorem dX8_unlike_2 : decode cX8_unlike 2 = .ok (.iconst 0, 1) := by decide +kernel
theorem dX8_unlike_3 : decode cX8_unlike 3 = .ok (.istore 4, 2) := by decide +kernel
theorem dX8_unlike_5 : decode cX8_unlike 5 = .ok (.iload 4, 2) := by decide +kernel
theorem dX8_unlike_7 : decode cX8_unlike 7 = .ok (.bipush 7, 2) := by decide +kernel
theorem dX8_unlike_9 : decode cX8_unlike 9 = .ok (.if_icmp .ge 31, 3) := by decide +kernel
theorem dX8_unlike_12 : decode cX8_unlike 12 = .ok (.iload_n 3, 1) := by decide +kernel
theorem dX8_unlike_13 : decode cX8_unlike 13 = .ok (.aload_n 0, 1) := by decide +kernel
theorem dX8_unlike_14 : decode cX8_unlike 14 = .ok (.iload_n 1, 1) := by decide +kernel
theorem dX8_unlike_15 : decode cX8_unlike 15 = .ok (.iload_n 2, 1) := by decide +kernel
theorem dX8_unlike_16 : decode cX8_unlike 16 = .ok (.iload 4, 2) := by decide +kernel
theorem dX8_unlike_18 : decode cX8_unlike 18 = .ok (.invokevirtual 122, 3) := by decide +kernel
theorem dX8_unlike_21 : decode cX8_unlike 21 = .ok (.ifCond .ge 10, 3) := by decide +kernel
theorem dX8_unlike_24 : decode cX8_unlike 24 = .ok (.iconst 1, 1) := by decide +kernel
theorem dX8_unlike_25 : decode cX8_unlike 25 = .ok (.iload 4, 2) := by decide +kernel
theorem dX8_unlike_27 : decode cX8_unlike 27 = .ok (.ishl, 1) := by decide +kernel
theorem dX8_unlike_28 : decode cX8_unlike 28 = .ok (.goto 4, 3) := by decide +kernel
theorem dX8_unlike_31 : decode cX8_unlike 31 = .ok (.iconst 0, 1) := by decide +kernel
theorem dX8_unlike_32 : decode cX8_unlike 32 = .ok (.ior, 1) := by decide +kernel
theorem dX8_unlike_33 : decode cX8_unlike 33 = .ok (.istore_n 3, 1) := by decide +kernel
theorem dX8_unlike_34 : decode cX8_unlike 34 = .ok (.iinc 4 1, 3) := by decide +kernel
theorem dX8_unlike_37 : decode cX8_unlike 37 = .ok (.goto (-32), 3) := by decide +kernel
theorem dX8_unlike_40 : decode cX8_unlike 40 = .ok (.iload_n 3, 1) := by decide +kernel
theorem dX8_unlike_41 : decode cX8_unlike 41 = .ok (.ireturn, 1) := by decide +kernel
set_option maxHeartbeats 4000000 in
set_option maxRecDepth 100000 in
theorem c_X8_unlike (l : Launch) (E : fEv) (N : Nat) (a1 : Int32) (a2 : Int32) (σ : fS) (r : Int32) (τ : fS) (hG : g_X8_unlike N a1 a2 σ = some (r, τ)) : fM l E yX8_unlike (.code yX8_unlike cX8_unlike 5 (some .int)) rm_X8_unlike [.ref (E.2.1 61), .int a1, .int a2] σ τ (some (.int r)) := by
  refine f_openI (by decide) (Nat.le_of_ble_eq_true rfl) ?_
  intro p e s m below meth c args Q F hR hP ls hl
  have hx := F.1.1
  have hb := F.1.2.1
  have hown := F.1.2.2.2.1
  have hts := F.1.2.2.2.2
  have hS : va_S (f_A E) s.heap s.heap [] := va_S.rf
  skip
  have hl : lv_has ls 5 [(0, .ref (E.2.1 61)), (1, .int a1), (2, .int a2)] := hl
  unfold g_X8_unlike at hG
  refine lv_iconst (v := 0) hx hb dX8_unlike_0 (by decide) ?_
  refine lv_istore_n (lv' := [(3, .int (0 : Int32)), (0, .ref (E.2.1 61)), (1, .int a1), (2, .int a2)]) hx hb dX8_unlike_1 rfl hl (by decide) rfl (fun ls hl => ?_)
  refine lv_iconst (v := 0) hx hb dX8_unlike_2 (by decide) ?_
  refine lv_istore (lv' := [(4, .int (0 : Int32)), (3, .int (0 : Int32)), (0, .ref (E.2.1 61)), (1, .int a1), (2, .int a2)]) hx hb dX8_unlike_3 hl (by decide) rfl (fun ls hl => ?_)
  obtain ⟨o5, σl5, hT5, hG⟩ := f_bd hG
  have T5 : ∀ (H : Heap) (locs : List Loc) (ls : Array Slot), f_h E σl5 H → va_S (f_A E) s.heap H locs → lv_has ls 5 [(3, .int o5)] → W p l e rm_X8_unlike s m args below meth c H locs 0 0 Q (F0 m 40 ls []) := by
    intro H locs ls hP hS hl
    refine lv_iload_n hx hb dX8_unlike_40 rfl (lv_at hl 0 rfl) ?_
    exact x_ri hR hS hP hG dX8_unlike_41
  have L5 : ∀ (n5 : Nat) (x5_3 : Int32) (x5_4 : Int32) (σh5 : fS) (H : Heap) (locs : List Loc) (ls : Array Slot), f_h E σh5 H → va_S (f_A E) s.heap H locs → lv_has ls 5 [(0, .ref (E.2.1 61)), (1, .int a1), (2, .int a2), (3, .int x5_3), (4, .int x5_4)] → lp_X8_unlike_5 N a1 a2 n5 x5_3 x5_4 σh5 = some (o5, σl5) → W p l e rm_X8_unlike s m args below meth c H locs 0 0 Q (F0 m 5 ls []) := by
    intro n5
    induction n5 with
    | zero =>
      intro x5_3 x5_4 σh5 H locs ls hP hS hl hG
      rw [lp_X8_unlike_5] at hG
      cases hG
    | succ n5 ih5 =>
      intro x5_3 x5_4 σh5 H locs ls hP hS hl hG
      rw [lp_X8_unlike_5] at hG
      refine lv_iload hx hb dX8_unlike_5 (lv_at hl 4 rfl) ?_
      refine lv_bipush (v := 7) hx hb dX8_unlike_7 (by decide) ?_
      refine lv_icmp_ge (tgt := 40) hx hb dX8_unlike_9 (by decide) (fun c9 => ?_) (fun c9 => ?_)
      · have hG := f_ip c9 hG
        cases hG
        exact T5 _ _ _ hP hS (lv_sub hl [3] rfl)
      · have hG := f_in c9 hG
        refine lv_iload_n hx hb dX8_unlike_12 rfl (lv_at hl 3 rfl) ?_
        refine lv_aload_n hx hb dX8_unlike_13 rfl (lv_at hl 0 rfl) ?_
        refine lv_iload_n hx hb dX8_unlike_14 rfl (lv_at hl 1 rfl) ?_
        refine lv_iload_n hx hb dX8_unlike_15 rfl (lv_at hl 2 rfl) ?_
        refine lv_iload hx hb dX8_unlike_16 (lv_at hl 4 rfl) ?_
        obtain ⟨r18, σ18, hC18, hG⟩ := f_bd hG
        refine iv_X8_122 F hS hP (c_X8_symbolNow l E N a1 a2 x5_4 σh5 _ _ hC18) ⟨Nat.le_of_ble_eq_true rfl, Nat.le_of_ble_eq_true rfl⟩ hl.1 (Nat.le_of_ble_eq_true rfl) dX8_unlike_18 ⟨Nat.zero_le _, Nat.zero_le _⟩ (fun H locs hP hS => ?_)
        refine lv_if_ge (tgt := 31) hx hb dX8_unlike_21 (by decide) (fun c21 => ?_) (fun c21 => ?_)
        · have hG := f_ip c21 hG
          refine lv_iconst (v := 0) hx hb dX8_unlike_31 (by decide) ?_
          refine lv_ior hx hb dX8_unlike_32 ?_
          refine lv_topi (fun v33 e33 => ?_)
          have hG := f_lt hG e33
          refine lv_istore_n (lv' := [(3, .int v33), (0, .ref (E.2.1 61)), (1, .int a1), (2, .int a2), (4, .int x5_4)]) hx hb dX8_unlike_33 rfl hl (by decide) rfl (fun ls hl => ?_)
          refine lv_iinc (v := (x5_4 + (1 : Int32))) (lv' := [(4, .int (x5_4 + (1 : Int32))), (3, .int v33), (0, .ref (E.2.1 61)), (1, .int a1), (2, .int a2)]) hx hb dX8_unlike_34 hl (k := 4) rfl (by rfl) (by decide) rfl (fun ls hl => ?_)
          refine lv_goto (tgt := 5) hx hb dX8_unlike_37 (by decide) ?_
          exact ih5 v33 (x5_4 + (1 : Int32)) σ18 _ _ _ hP hS (lv_sub hl [2, 3, 4, 1, 0] rfl) hG
        · have hG := f_in c21 hG
          refine lv_iconst (v := 1) hx hb dX8_unlike_24 (by decide) ?_
          refine lv_iload hx hb dX8_unlike_25 (lv_at hl 4 rfl) ?_
          refine lv_ishl hx hb dX8_unlike_27 ?_
          refine lv_goto (tgt := 32) hx hb dX8_unlike_28 (by decide) ?_
          refine lv_ior hx hb dX8_unlike_32 ?_
          refine lv_topi (fun v33 e33 => ?_)
          have hG := f_lt hG e33
          refine lv_istore_n (lv' := [(3, .int v33), (0, .ref (E.2.1 61)), (1, .int a1), (2, .int a2), (4, .int x5_4)]) hx hb dX8_unlike_33 rfl hl (by decide) rfl (fun ls hl => ?_)
          refine lv_iinc (v := (x5_4 + (1 : Int32))) (lv' := [(4, .int (x5_4 + (1 : Int32))), (3, .int v33), (0, .ref (E.2.1 61)), (1, .int a1), (2, .int a2)]) hx hb dX8_unlike_34 hl (k := 4) rfl (by rfl) (by decide) rfl (fun ls hl => ?_)
          refine lv_goto (tgt := 5) hx hb dX8_unlike_37 (by decide) ?_
          exact ih5 v33 (x5_4 + (1 : Int32)) σ18 _ _ _ hP hS (lv_sub hl [2, 3, 4, 1, 0] rfl) hG
  exact L5 N (0 : Int32) (0 : Int32) σ _ _ _ hP hS (lv_sub hl [2, 3, 4, 1, 0] rfl) hT5
theorem dX8_letter_0 : decode cX8_letter 0 = .ok (.iload_n 1, 1) := by decide +kernel
theorem dX8_letter_1 : decode cX8_letter 1 = .ok (.bipush 32, 2) := by decide +kernel
theorem dX8_letter_3 : decode cX8_letter 3 = .ok (.bipush 126, 2) := by decide +kernel
theorem dX8_letter_5 : decode cX8_letter 5 = .ok (.invokestatic 89, 3) := by decide +kernel
theorem dX8_letter_8 : decode cX8_letter 8 = .ok (.ifCond .ne 6, 3) := by decide +kernel
theorem dX8_letter_11 : decode cX8_letter 11 = .ok (.bipush (-102), 2) := by decide +kernel
theorem dX8_letter_13 : decode cX8_letter 13 = .ok (.ireturn, 1) := by decide +kernel
theorem dX8_letter_14 : decode cX8_letter 14 = .ok (.aload_n 0, 1) := by decide +kernel
theorem dX8_letter_15 : decode cX8_letter 15 = .ok (.getfield 126, 3) := by decide +kernel
theorem dX8_letter_18 : decode cX8_letter 18 = .ok (.bipush 18, 2) := by decide +kernel
theorem dX8_letter_20 : decode cX8_letter 20 = .ok (.if_icmp .ne 6, 3) := by decide +kernel
theorem dX8_letter_23 : decode cX8_letter 23 = .ok (.bipush (-104), 2) := by decide +kernel
theorem dX8_letter_25 : decode cX8_letter 25 = .ok (.ireturn, 1) := by decide +kernel
theorem dX8_letter_26 : decode cX8_letter 26 = .ok (.aload_n 0, 1) := by decide +kernel
theorem dX8_letter_27 : decode cX8_letter 27 = .ok (.getfield 26, 3) := by decide +kernel
theorem dX8_letter_30 : decode cX8_letter 30 = .ok (.aload_n 0, 1) := by decide +kernel
theorem dX8_letter_31 : decode cX8_letter 31 = .ok (.getfield 126, 3) := by decide +kernel
theorem dX8_letter_34 : decode cX8_letter 34 = .ok (.iload_n 1, 1) := by decide +kernel
theorem dX8_letter_35 : decode cX8_letter 35 = .ok (.i2b, 1) := by decide +kernel
theorem dX8_letter_36 : decode cX8_letter 36 = .ok (.bastore, 1) := by decide +kernel
theorem dX8_letter_37 : decode cX8_letter 37 = .ok (.aload_n 0, 1) := by decide +kernel
theorem dX8_letter_38 : decode cX8_letter 38 = .ok (.dup, 1) := by decide +kernel
theorem dX8_letter_39 : decode cX8_letter 39 = .ok (.getfield 126, 3) := by decide +kernel
theorem dX8_letter_42 : decode cX8_letter 42 = .ok (.iconst 1, 1) := by decide +kernel
theorem dX8_letter_43 : decode cX8_letter 43 = .ok (.iadd, 1) := by decide +kernel
theorem dX8_letter_44 : decode cX8_letter 44 = .ok (.putfield 126, 3) := by decide +kernel
theorem dX8_letter_47 : decode cX8_letter 47 = .ok (.aload_n 0, 1) := by decide +kernel
theorem dX8_letter_48 : decode cX8_letter 48 = .ok (.getfield 126, 3) := by decide +kernel
theorem dX8_letter_51 : decode cX8_letter 51 = .ok (.ireturn, 1) := by decide +kernel
set_option maxHeartbeats 4000000 in
set_option maxRecDepth 100000 in
theorem c_X8_letter (l : Launch) (E : fEv) (N : Nat) (a1 : Int32) (σ : fS) (r : Int32) (τ : fS) (hG : g_X8_letter N a1 σ = some (r, τ)) : fM l E yX8_letter (.code yX8_letter cX8_letter 2 (some .int)) rm_X8_letter [.ref (E.2.1 61), .int a1] σ τ (some (.int r)) := by
  refine f_openI (by decide) (Nat.le_of_ble_eq_true rfl) ?_
  intro p e s m below meth c args Q F hR hP ls hl
  have hx := F.1.1
  have hb := F.1.2.1
  have hown := F.1.2.2.2.1
  have hts := F.1.2.2.2.2
  have hS : va_S (f_A E) s.heap s.heap [] := va_S.rf
  skip
  have hl : lv_has ls 2 [(0, .ref (E.2.1 61)), (1, .int a1)] := hl
  unfold g_X8_letter at hG
  refine lv_iload_n hx hb dX8_letter_0 rfl (lv_at hl 1 rfl) ?_
  refine lv_bipush (v := 32) hx hb dX8_letter_1 (by decide) ?_
  refine lv_bipush (v := 126) hx hb dX8_letter_3 (by decide) ?_
  obtain ⟨r5, σ5, hC5, hG⟩ := f_bd hG
  refine iv_X8_89 F hS hP (c_X8_within l E N a1 (32 : Int32) (126 : Int32) σ _ _ hC5) ⟨Nat.le_of_ble_eq_true rfl, Nat.le_of_ble_eq_true rfl⟩ hl.1 (Nat.le_of_ble_eq_true rfl) dX8_letter_5 ⟨Nat.zero_le _, Nat.zero_le _⟩ (fun H locs hP hS => ?_)
  refine lv_if_ne (tgt := 14) hx hb dX8_letter_8 (by decide) (fun c8 => ?_) (fun c8 => ?_)
  · have hG := f_in c8 hG
    refine lv_aload_n hx hb dX8_letter_14 rfl (lv_at hl 0 rfl) ?_
    refine gf_X8_126 F hP dX8_letter_15 ?_
    refine lv_bipush (v := 18) hx hb dX8_letter_18 (by decide) ?_
    refine lv_icmp_ne (tgt := 26) hx hb dX8_letter_20 (by decide) (fun c20 => ?_) (fun c20 => ?_)
    · have hG := f_in c20 hG
      refine lv_aload_n hx hb dX8_letter_26 rfl (lv_at hl 0 rfl) ?_
      refine gf_X8_26 F hP dX8_letter_27 ?_
      refine lv_aload_n hx hb dX8_letter_30 rfl (lv_at hl 0 rfl) ?_
      refine gf_X8_126 F hP dX8_letter_31 ?_
      refine lv_iload_n hx hb dX8_letter_34 rfl (lv_at hl 1 rfl) ?_
      refine lv_i2b hx hb dX8_letter_35 rfl ?_
      obtain ⟨h36, hG⟩ := f_gd hG
      have i36 := f_fin h36
      refine x_bast F hS hP rfl rfl i36 dX8_letter_36 (fun H locs hP hS => ?_)
      obtain ⟨σ36, e36⟩ : ∃ t : fS, t = sI σ5 67 ((σ5.1 61 5)).toNatClampNeg (vp_nar .byte (a1).toInt8.toInt32) := ⟨_, rfl⟩
      rw [← e36] at hP
      have hG := f_lt hG e36
      refine lv_aload_n hx hb dX8_letter_37 rfl (lv_at hl 0 rfl) ?_
      refine lv_dup hx hb dX8_letter_38 rfl ?_
      refine gf_X8_126 F hP dX8_letter_39 ?_
      refine lv_iconst (v := 1) hx hb dX8_letter_42 (by decide) ?_
      refine lv_iadd hx hb dX8_letter_43 ?_
      refine pf_X8_126 F hS hP dX8_letter_44 (fun H locs hP hS => ?_)
      obtain ⟨σ44, e44⟩ : ∃ t : fS, t = sI σ36 61 5 ((σ36.1 61 5) + (1 : Int32)) := ⟨_, rfl⟩
      rw [← e44] at hP
      have hG := f_lt hG e44
      refine lv_aload_n hx hb dX8_letter_47 rfl (lv_at hl 0 rfl) ?_
      refine gf_X8_126 F hP dX8_letter_48 ?_
      exact x_ri hR hS hP hG dX8_letter_51
    · have hG := f_ip c20 hG
      refine lv_bipush (v := -104) hx hb dX8_letter_23 (by decide) ?_
      exact x_ri hR hS hP hG dX8_letter_25
  · have hG := f_ip c8 hG
    refine lv_bipush (v := -102) hx hb dX8_letter_11 (by decide) ?_
    exact x_ri hR hS hP hG dX8_letter_13
theorem dX8_blank_0 : decode cX8_blank 0 = .ok (.aload_n 0, 1) := by decide +kernel
theorem dX8_blank_1 : decode cX8_blank 1 = .ok (.getfield 126, 3) := by decide +kernel
theorem dX8_blank_4 : decode cX8_blank 4 = .ok (.istore_n 1, 1) := by decide +kernel
theorem dX8_blank_5 : decode cX8_blank 5 = .ok (.aload_n 0, 1) := by decide +kernel
theorem dX8_blank_6 : decode cX8_blank 6 = .ok (.iconst 0, 1) := by decide +kernel
theorem dX8_blank_7 : decode cX8_blank 7 = .ok (.putfield 126, 3) := by decide +kernel
theorem dX8_blank_10 : decode cX8_blank 10 = .ok (.iload_n 1, 1) := by decide +kernel
theorem dX8_blank_11 : decode cX8_blank 11 = .ok (.ireturn, 1) := by decide +kernel
set_option maxHeartbeats 4000000 in
set_option maxRecDepth 100000 in
theorem c_X8_blank (l : Launch) (E : fEv) (N : Nat)  (σ : fS) (r : Int32) (τ : fS) (hG : g_X8_blank N  σ = some (r, τ)) : fM l E yX8_blank (.code yX8_blank cX8_blank 2 (some .int)) rm_X8_blank [.ref (E.2.1 61)] σ τ (some (.int r)) := by
  refine f_openI (by decide) (Nat.le_of_ble_eq_true rfl) ?_
  intro p e s m below meth c args Q F hR hP ls hl
  have hx := F.1.1
  have hb := F.1.2.1
  have hown := F.1.2.2.2.1
  have hts := F.1.2.2.2.2
  have hS : va_S (f_A E) s.heap s.heap [] := va_S.rf
  skip
  have hl : lv_has ls 2 [(0, .ref (E.2.1 61))] := hl
  unfold g_X8_blank at hG
  refine lv_aload_n hx hb dX8_blank_0 rfl (lv_at hl 0 rfl) ?_
  refine gf_X8_126 F hP dX8_blank_1 ?_
  refine lv_topi (fun v4 e4 => ?_)
  have hG := f_lt hG e4
  refine lv_istore_n (lv' := [(1, .int v4), (0, .ref (E.2.1 61))]) hx hb dX8_blank_4 rfl hl (by decide) rfl (fun ls hl => ?_)
  refine lv_aload_n hx hb dX8_blank_5 rfl (lv_at hl 1 rfl) ?_
  refine lv_iconst (v := 0) hx hb dX8_blank_6 (by decide) ?_
  refine pf_X8_126 F hS hP dX8_blank_7 (fun H locs hP hS => ?_)
  obtain ⟨σ7, e7⟩ : ∃ t : fS, t = sI σ 61 5 (0 : Int32) := ⟨_, rfl⟩
  rw [← e7] at hP
  have hG := f_lt hG e7
  refine lv_iload_n hx hb dX8_blank_10 rfl (lv_at hl 0 rfl) ?_
  exact x_ri hR hS hP hG dX8_blank_11
theorem dX8_letterAt_0 : decode cX8_letterAt 0 = .ok (.iload_n 1, 1) := by decide +kernel
theorem dX8_letterAt_1 : decode cX8_letterAt 1 = .ok (.aload_n 0, 1) := by decide +kernel
theorem dX8_letterAt_2 : decode cX8_letterAt 2 = .ok (.getfield 126, 3) := by decide +kernel
theorem dX8_letterAt_5 : decode cX8_letterAt 5 = .ok (.if_icmp .ge 12, 3) := by decide +kernel
theorem dX8_letterAt_8 : decode cX8_letterAt 8 = .ok (.aload_n 0, 1) := by decide +kernel
theorem dX8_letterAt_9 : decode cX8_letterAt 9 = .ok (.getfield 26, 3) := by decide +kernel
theorem dX8_letterAt_12 : decode cX8_letterAt 12 = .ok (.iload_n 1, 1) := by decide +kernel
theorem dX8_letterAt_13 : decode cX8_letterAt 13 = .ok (.baload, 1) := by decide +kernel
theorem dX8_letterAt_14 : decode cX8_letterAt 14 = .ok (.goto 4, 3) := by decide +kernel
theorem dX8_letterAt_17 : decode cX8_letterAt 17 = .ok (.iconst 0, 1) := by decide +kernel
theorem dX8_letterAt_18 : decode cX8_letterAt 18 = .ok (.ireturn, 1) := by decide +kernel
set_option maxHeartbeats 4000000 in
set_option maxRecDepth 100000 in
theorem c_X8_letterAt (l : Launch) (E : fEv) (N : Nat) (a1 : Int32) (σ : fS) (r : Int32) (τ : fS) (hG : g_X8_letterAt N a1 σ = some (r, τ)) : fM l E yX8_letterAt (.code yX8_letterAt cX8_letterAt 2 (some .int)) rm_X8_letterAt [.ref (E.2.1 61), .int a1] σ τ (some (.int r)) := by
  refine f_openI (by decide) (Nat.le_of_ble_eq_true rfl) ?_
  intro p e s m below meth c args Q F hR hP ls hl
  have hx := F.1.1
  have hb := F.1.2.1
  have hown := F.1.2.2.2.1
  have hts := F.1.2.2.2.2
  have hS : va_S (f_A E) s.heap s.heap [] := va_S.rf
  skip
  have hl : lv_has ls 2 [(0, .ref (E.2.1 61)), (1, .int a1)] := hl
  unfold g_X8_letterAt at hG
  refine lv_iload_n hx hb dX8_letterAt_0 rfl (lv_at hl 1 rfl) ?_
  refine lv_aload_n hx hb dX8_letterAt_1 rfl (lv_at hl 0 rfl) ?_
  refine gf_X8_126 F hP dX8_letterAt_2 ?_
  refine lv_icmp_ge (tgt := 17) hx hb dX8_letterAt_5 (by decide) (fun c5 => ?_) (fun c5 => ?_)
  · have hG := f_ip c5 hG
    refine lv_iconst (v := 0) hx hb dX8_letterAt_17 (by decide) ?_
    exact x_ri hR hS hP hG dX8_letterAt_18
  · have hG := f_in c5 hG
    refine lv_aload_n hx hb dX8_letterAt_8 rfl (lv_at hl 0 rfl) ?_
    refine gf_X8_26 F hP dX8_letterAt_9 ?_
    refine lv_iload_n hx hb dX8_letterAt_12 rfl (lv_at hl 1 rfl) ?_
    obtain ⟨h13, hG⟩ := f_gd hG
    have i13 := f_fin h13
    refine x_bald F hP rfl rfl i13 dX8_letterAt_13 ?_
    refine lv_goto (tgt := 18) hx hb dX8_letterAt_14 (by decide) ?_
    exact x_ri hR hS hP hG dX8_letterAt_18
theorem dX8_readNumber_0 : decode cX8_readNumber 0 = .ok (.aload_n 0, 1) := by decide +kernel
theorem dX8_readNumber_1 : decode cX8_readNumber 1 = .ok (.iload_n 1, 1) := by decide +kernel
theorem dX8_readNumber_2 : decode cX8_readNumber 2 = .ok (.invokevirtual 129, 3) := by decide +kernel
theorem dX8_readNumber_5 : decode cX8_readNumber 5 = .ok (.bipush 45, 2) := by decide +kernel
theorem dX8_readNumber_7 : decode cX8_readNumber 7 = .ok (.if_icmp .ne 9, 3) := by decide +kernel
theorem dX8_readNumber_10 : decode cX8_readNumber 10 = .ok (.iload_n 1, 1) := by decide +kernel
theorem dX8_readNumber_11 : decode cX8_readNumber 11 = .ok (.iconst 1, 1) := by decide +kernel
theorem dX8_readNumber_12 : decode cX8_readNumber 12 = .ok (.iadd, 1) := by decide +kernel
theorem dX8_readNumber_13 : decode cX8_readNumber 13 = .ok (.goto 4, 3) := by decide +kernel
theorem dX8_readNumber_16 : decode cX8_readNumber 16 = .ok (.iload_n 1, 1) := by decide +kernel
theorem dX8_readNumber_17 : decode cX8_readNumber 17 = .ok (.istore_n 2, 1) := by decide +kernel
theorem dX8_readNumber_18 : decode cX8_readNumber 18 = .ok (.aload_n 0, 1) := by decide +kernel
theorem dX8_readNumber_19 : decode cX8_readNumber 19 = .ok (.iload_n 2, 1) := by decide +kernel
theorem dX8_readNumber_20 : decode cX8_readNumber 20 = .ok (.invokevirtual 129, 3) := by decide +kernel
theorem dX8_readNumber_23 : decode cX8_readNumber 23 = .ok (.bipush 49, 2) := by decide +kernel
theorem dX8_readNumber_25 : decode cX8_readNumber 25 = .ok (.bipush 57, 2) := by decide +kernel
theorem dX8_readNumber_27 : decode cX8_readNumber 27 = .ok (.invokestatic 89, 3) := by decide +kernel
theorem dX8_readNumber_30 : decode cX8_readNumber 30 = .ok (.ifCond .ne 7, 3) := by decide +kernel
theorem dX8_readNumber_33 : decode cX8_readNumber 33 = .ok (.iconst (-1), 1) := by decide +kernel
theorem dX8_readNumber_34 : decode cX8_readNumber 34 = .ok (.iload_n 2, 1) := by decide +kernel
theorem dX8_readNumber_35 : decode cX8_readNumber 35 = .ok (.isub, 1) := by decide +kernel
theorem dX8_readNumber_36 : decode cX8_readNumber 36 = .ok (.ireturn, 1) := by decide +kernel
theorem dX8_readNumber_37 : decode cX8_readNumber 37 = .ok (.aload_n 0, 1) := by decide +kernel
theorem dX8_readNumber_38 : decode cX8_readNumber 38 = .ok (.iload_n 2, 1) := by decide +kernel
theorem dX8_readNumber_39 : decode cX8_readNumber 39 = .ok (.invokevirtual 129, 3) := by decide +kernel
theorem dX8_readNumber_42 : decode cX8_readNumber 42 = .ok (.bipush 48, 2) := by decide +kernel
theorem dX8_readNumber_44 : decode cX8_readNumber 44 = .ok (.isub, 1) := by decide +kernel
theorem dX8_readNumber_45 : decode cX8_readNumber 45 = .ok (.istore_n 3, 1) := by decide +kernel
theorem dX8_readNumber_46 : decode cX8_readNumber 46 = .ok (.iinc 2 1, 3) := by decide +kernel
theorem dX8_readNumber_49 : decode cX8_readNumber 49 = .ok (.aload_n 0, 1) := by decide +kernel
theorem dX8_readNumber_50 : decode cX8_readNumber 50 = .ok (.iload_n 2, 1) := by decide +kernel
theorem dX8_readNumber_51 : decode cX8_readNumber 51 = .ok (.invokevirtual 129, 3) := by decide +kernel
theorem dX8_readNumber_54 : decode cX8_readNumber 54 = .ok (.bipush 48, 2) := by decide +kernel
theorem dX8_readNumber_56 : decode cX8_readNumber 56 = .ok (.bipush 57, 2) := by decide +kernel
theorem dX8_readNumber_58 : decode cX8_readNumber 58 = .ok (.invokestatic 89, 3) := by decide +kernel
theorem dX8_readNumber_61 : decode cX8_readNumber 61 = .ok (.ifCond .eq 31, 3) := by decide +kernel
theorem dX8_readNumber_64 : decode cX8_readNumber 64 = .ok (.bipush 10, 2) := by decide +kernel
theorem dX8_readNumber_66 : decode cX8_readNumber 66 = .ok (.iload_n 3, 1) := by decide +kernel
theorem dX8_readNumber_67 : decode cX8_readNumber 67 = .ok (.imul, 1) := by decide +kernel
theorem dX8_readNumber_68 : decode cX8_readNumber 68 = .ok (.aload_n 0, 1) := by decide +kernel
theorem dX8_readNumber_69 : decode cX8_readNumber 69 = .ok (.iload_n 2, 1) := by decide +kernel
theorem dX8_readNumber_70 : decode cX8_readNumber 70 = .ok (.invokevirtual 129, 3) := by decide +kernel
theorem dX8_readNumber_73 : decode cX8_readNumber 73 = .ok (.iadd, 1) := by decide +kernel
theorem dX8_readNumber_74 : decode cX8_readNumber 74 = .ok (.bipush 48, 2) := by decide +kernel
theorem dX8_readNumber_76 : decode cX8_readNumber 76 = .ok (.isub, 1) := by decide +kernel
theorem dX8_readNumber_77 : decode cX8_readNumber 77 = .ok (.istore_n 3, 1) := by decide +kernel
theorem dX8_readNumber_78 : decode cX8_readNumber 78 = .ok (.iload_n 3, 1) := by decide +kernel
theorem dX8_readNumber_79 : decode cX8_readNumber 79 = .ok (.invokestatic 132, 3) := by decide +kernel
theorem dX8_readNumber_82 : decode cX8_readNumber 82 = .ok (.ifCond .ne 7, 3) := by decide +kernel
theorem dX8_readNumber_85 : decode cX8_readNumber 85 = .ok (.iconst (-1), 1) := by decide +kernel
theorem dX8_readNumber_86 : decode cX8_readNumber 86 = .ok (.iload_n 2, 1) := by decide +kernel
theorem dX8_readNumber_87 : decode cX8_readNumber 87 = .ok (.isub, 1) := by decide +kernel
theorem dX8_readNumber_88 : decode cX8_readNumber 88 = .ok (.ireturn, 1) := by decide +kernel
theorem dX8_readNumber_89 : decode cX8_readNumber 89 = .ok (.iinc 2 1, 3) := by decide +kernel
theorem dX8_readNumber_92 : decode cX8_readNumber 92 = .ok (.aload_n 0, 1) := by decide +kernel
theorem dX8_readNumber_93 : decode cX8_readNumber 93 = .ok (.getfield 72, 3) := by decide +kernel
theorem dX8_readNumber_96 : decode cX8_readNumber 96 = .ok (.aload_n 0, 1) := by decide +kernel
theorem dX8_readNumber_97 : decode cX8_readNumber 97 = .ok (.getfield 135, 3) := by decide +kernel
theorem dX8_readNumber_100 : decode cX8_readNumber 100 = .ok (.aload_n 0, 1) := by decide +kernel
theorem dX8_readNumber_101 : decode cX8_readNumber 101 = .ok (.iload_n 1, 1) := by decide +kernel
theorem dX8_readNumber_102 : decode cX8_readNumber 102 = .ok (.invokevirtual 129, 3) := by decide +kernel
theorem dX8_readNumber_105 : decode cX8_readNumber 105 = .ok (.bipush 45, 2) := by decide +kernel
theorem dX8_readNumber_107 : decode cX8_readNumber 107 = .ok (.if_icmp .ne 8, 3) := by decide +kernel
theorem dX8_readNumber_110 : decode cX8_readNumber 110 = .ok (.iload_n 3, 1) := by decide +kernel
theorem dX8_readNumber_111 : decode cX8_readNumber 111 = .ok (.ineg, 1) := by decide +kernel
theorem dX8_readNumber_112 : decode cX8_readNumber 112 = .ok (.goto 4, 3) := by decide +kernel
theorem dX8_readNumber_115 : decode cX8_readNumber 115 = .ok (.iload_n 3, 1) := by decide +kernel
theorem dX8_readNumber_116 : decode cX8_readNumber 116 = .ok (.invokestatic 138, 3) := by decide +kernel
theorem dX8_readNumber_119 : decode cX8_readNumber 119 = .ok (.iastore, 1) := by decide +kernel
theorem dX8_readNumber_120 : decode cX8_readNumber 120 = .ok (.aload_n 0, 1) := by decide +kernel
theorem dX8_readNumber_121 : decode cX8_readNumber 121 = .ok (.dup, 1) := by decide +kernel
theorem dX8_readNumber_122 : decode cX8_readNumber 122 = .ok (.getfield 135, 3) := by decide +kernel
theorem dX8_readNumber_125 : decode cX8_readNumber 125 = .ok (.iconst 1, 1) := by decide +kernel
theorem dX8_readNumber_126 : decode cX8_readNumber 126 = .ok (.iadd, 1) := by decide +kernel
theorem dX8_readNumber_127 : decode cX8_readNumber 127 = .ok (.putfield 135, 3) := by decide +kernel
theorem dX8_readNumber_130 : decode cX8_readNumber 130 = .ok (.iload_n 2, 1) := by decide +kernel
theorem dX8_readNumber_131 : decode cX8_readNumber 131 = .ok (.ireturn, 1) := by decide +kernel
set_option maxHeartbeats 4000000 in
set_option maxRecDepth 100000 in
theorem c_X8_readNumber (l : Launch) (E : fEv) (N : Nat) (a1 : Int32) (σ : fS) (r : Int32) (τ : fS) (hG : g_X8_readNumber N a1 σ = some (r, τ)) : fM l E yX8_readNumber (.code yX8_readNumber cX8_readNumber 4 (some .int)) rm_X8_readNumber [.ref (E.2.1 61), .int a1] σ τ (some (.int r)) := by
  refine f_openI (by decide) (Nat.le_of_ble_eq_true rfl) ?_
  intro p e s m below meth c args Q F hR hP ls hl
  have hx := F.1.1
  have hb := F.1.2.1
  have hown := F.1.2.2.2.1
  have hts := F.1.2.2.2.2
  have hS : va_S (f_A E) s.heap s.heap [] := va_S.rf
  skip
  have hl : lv_has ls 4 [(0, .ref (E.2.1 61)), (1, .int a1)] := hl
  unfold g_X8_readNumber at hG
  refine lv_aload_n hx hb dX8_readNumber_0 rfl (lv_at hl 0 rfl) ?_
  refine lv_iload_n hx hb dX8_readNumber_1 rfl (lv_at hl 1 rfl) ?_
  obtain ⟨r2, σ2, hC2, hG⟩ := f_bd hG
  refine iv_X8_129 F hS hP (c_X8_letterAt l E N a1 σ _ _ hC2) ⟨Nat.le_of_ble_eq_true rfl, Nat.le_of_ble_eq_true rfl⟩ hl.1 (Nat.le_of_ble_eq_true rfl) dX8_readNumber_2 ⟨Nat.zero_le _, Nat.zero_le _⟩ (fun H locs hP hS => ?_)
  refine lv_bipush (v := 45) hx hb dX8_readNumber_5 (by decide) ?_
  obtain ⟨o7, σj7, hT7, hG⟩ := f_bd hG
  have T7 : ∀ (H : Heap) (locs : List Loc) (ls : Array Slot), f_h E σj7 H → va_S (f_A E) s.heap H locs → lv_has ls 4 [(0, .ref (E.2.1 61)), (1, .int a1)] → W p l e rm_X8_readNumber s m args below meth c H locs 0 0 Q (F0 m 17 ls [.int o7]) := by
    intro H locs ls hP hS hl
    refine lv_istore_n (lv' := [(2, .int o7), (0, .ref (E.2.1 61)), (1, .int a1)]) hx hb dX8_readNumber_17 rfl hl (by decide) rfl (fun ls hl => ?_)
    refine lv_aload_n hx hb dX8_readNumber_18 rfl (lv_at hl 1 rfl) ?_
    refine lv_iload_n hx hb dX8_readNumber_19 rfl (lv_at hl 0 rfl) ?_
    obtain ⟨r20, σ20, hC20, hG⟩ := f_bd hG
    refine iv_X8_129 F hS hP (c_X8_letterAt l E N o7 σj7 _ _ hC20) ⟨Nat.le_of_ble_eq_true rfl, Nat.le_of_ble_eq_true rfl⟩ hl.1 (Nat.le_of_ble_eq_true rfl) dX8_readNumber_20 ⟨Nat.zero_le _, Nat.zero_le _⟩ (fun H locs hP hS => ?_)
    refine lv_bipush (v := 49) hx hb dX8_readNumber_23 (by decide) ?_
    refine lv_bipush (v := 57) hx hb dX8_readNumber_25 (by decide) ?_
    obtain ⟨r27, σ27, hC27, hG⟩ := f_bd hG
    refine iv_X8_89 F hS hP (c_X8_within l E N r20 (49 : Int32) (57 : Int32) σ20 _ _ hC27) ⟨Nat.le_of_ble_eq_true rfl, Nat.le_of_ble_eq_true rfl⟩ hl.1 (Nat.le_of_ble_eq_true rfl) dX8_readNumber_27 ⟨Nat.zero_le _, Nat.zero_le _⟩ (fun H locs hP hS => ?_)
    refine lv_if_ne (tgt := 37) hx hb dX8_readNumber_30 (by decide) (fun c30 => ?_) (fun c30 => ?_)
    · have hG := f_in c30 hG
      refine lv_aload_n hx hb dX8_readNumber_37 rfl (lv_at hl 1 rfl) ?_
      refine lv_iload_n hx hb dX8_readNumber_38 rfl (lv_at hl 0 rfl) ?_
      obtain ⟨r39, σ39, hC39, hG⟩ := f_bd hG
      refine iv_X8_129 F hS hP (c_X8_letterAt l E N o7 σ27 _ _ hC39) ⟨Nat.le_of_ble_eq_true rfl, Nat.le_of_ble_eq_true rfl⟩ hl.1 (Nat.le_of_ble_eq_true rfl) dX8_readNumber_39 ⟨Nat.zero_le _, Nat.zero_le _⟩ (fun H locs hP hS => ?_)
      refine lv_bipush (v := 48) hx hb dX8_readNumber_42 (by decide) ?_
      refine lv_isub hx hb dX8_readNumber_44 ?_
      refine lv_topi (fun v45 e45 => ?_)
      have hG := f_lt hG e45
      refine lv_istore_n (lv' := [(3, .int v45), (2, .int o7), (0, .ref (E.2.1 61)), (1, .int a1)]) hx hb dX8_readNumber_45 rfl hl (by decide) rfl (fun ls hl => ?_)
      refine lv_iinc (v := (o7 + (1 : Int32))) (lv' := [(2, .int (o7 + (1 : Int32))), (3, .int v45), (0, .ref (E.2.1 61)), (1, .int a1)]) hx hb dX8_readNumber_46 hl (k := 1) rfl (by rfl) (by decide) rfl (fun ls hl => ?_)
      refine lv_aload_n hx hb dX8_readNumber_49 rfl (lv_at hl 2 rfl) ?_
      refine lv_iload_n hx hb dX8_readNumber_50 rfl (lv_at hl 0 rfl) ?_
      obtain ⟨r51, σ51, hC51, hG⟩ := f_bd hG
      refine iv_X8_129 F hS hP (c_X8_letterAt l E N (o7 + (1 : Int32)) σ39 _ _ hC51) ⟨Nat.le_of_ble_eq_true rfl, Nat.le_of_ble_eq_true rfl⟩ hl.1 (Nat.le_of_ble_eq_true rfl) dX8_readNumber_51 ⟨Nat.zero_le _, Nat.zero_le _⟩ (fun H locs hP hS => ?_)
      refine lv_bipush (v := 48) hx hb dX8_readNumber_54 (by decide) ?_
      refine lv_bipush (v := 57) hx hb dX8_readNumber_56 (by decide) ?_
      obtain ⟨r58, σ58, hC58, hG⟩ := f_bd hG
      refine iv_X8_89 F hS hP (c_X8_within l E N r51 (48 : Int32) (57 : Int32) σ51 _ _ hC58) ⟨Nat.le_of_ble_eq_true rfl, Nat.le_of_ble_eq_true rfl⟩ hl.1 (Nat.le_of_ble_eq_true rfl) dX8_readNumber_58 ⟨Nat.zero_le _, Nat.zero_le _⟩ (fun H locs hP hS => ?_)
      refine lv_if_eq (tgt := 92) hx hb dX8_readNumber_61 (by decide) (fun c61 => ?_) (fun c61 => ?_)
      · have hG := f_ip c61 hG
        refine lv_aload_n hx hb dX8_readNumber_92 rfl (lv_at hl 2 rfl) ?_
        refine gf_X8_72 F hP dX8_readNumber_93 ?_
        refine lv_aload_n hx hb dX8_readNumber_96 rfl (lv_at hl 2 rfl) ?_
        refine gf_X8_135 F hP dX8_readNumber_97 ?_
        refine lv_aload_n hx hb dX8_readNumber_100 rfl (lv_at hl 2 rfl) ?_
        refine lv_iload_n hx hb dX8_readNumber_101 rfl (lv_at hl 3 rfl) ?_
        obtain ⟨r102, σ102, hC102, hG⟩ := f_bd hG
        refine iv_X8_129 F hS hP (c_X8_letterAt l E N a1 σ58 _ _ hC102) ⟨Nat.le_of_ble_eq_true rfl, Nat.le_of_ble_eq_true rfl⟩ hl.1 (Nat.le_of_ble_eq_true rfl) dX8_readNumber_102 ⟨Nat.zero_le _, Nat.zero_le _⟩ (fun H locs hP hS => ?_)
        refine lv_bipush (v := 45) hx hb dX8_readNumber_105 (by decide) ?_
        obtain ⟨o107, σj107, hT107, hG⟩ := f_bd hG
        have T107 : ∀ (H : Heap) (locs : List Loc) (ls : Array Slot), f_h E σj107 H → va_S (f_A E) s.heap H locs → lv_has ls 4 [(0, .ref (E.2.1 61)), (2, .int (o7 + (1 : Int32)))] → W p l e rm_X8_readNumber s m args below meth c H locs 0 0 Q (F0 m 116 ls [.int o107, .int (σ58.1 61 28), .ref (E.2.1 82)]) := by
          intro H locs ls hP hS hl
          obtain ⟨r116, σ116, hC116, hG⟩ := f_bd hG
          refine iv_X8_138 F hS hP (c_X8_kindOf l E N o107 σj107 _ _ hC116) ⟨Nat.le_of_ble_eq_true rfl, Nat.le_of_ble_eq_true rfl⟩ hl.1 (Nat.le_of_ble_eq_true rfl) dX8_readNumber_116 ⟨Nat.zero_le _, Nat.zero_le _⟩ (fun H locs hP hS => ?_)
          obtain ⟨h119, hG⟩ := f_gd hG
          have i119 := f_fin h119
          refine x_iast F hS hP rfl rfl i119 dX8_readNumber_119 (fun H locs hP hS => ?_)
          obtain ⟨σ119, e119⟩ : ∃ t : fS, t = sI σ116 82 ((σ58.1 61 28)).toNatClampNeg r116 := ⟨_, rfl⟩
          rw [← e119] at hP
          have hG := f_lt hG e119
          refine lv_aload_n hx hb dX8_readNumber_120 rfl (lv_at hl 0 rfl) ?_
          refine lv_dup hx hb dX8_readNumber_121 rfl ?_
          refine gf_X8_135 F hP dX8_readNumber_122 ?_
          refine lv_iconst (v := 1) hx hb dX8_readNumber_125 (by decide) ?_
          refine lv_iadd hx hb dX8_readNumber_126 ?_
          refine pf_X8_135 F hS hP dX8_readNumber_127 (fun H locs hP hS => ?_)
          obtain ⟨σ127, e127⟩ : ∃ t : fS, t = sI σ119 61 28 ((σ119.1 61 28) + (1 : Int32)) := ⟨_, rfl⟩
          rw [← e127] at hP
          have hG := f_lt hG e127
          refine lv_iload_n hx hb dX8_readNumber_130 rfl (lv_at hl 1 rfl) ?_
          exact x_ri hR hS hP hG dX8_readNumber_131
        have hG := hT107
        clear hT107
        refine lv_icmp_ne (tgt := 115) hx hb dX8_readNumber_107 (by decide) (fun c107 => ?_) (fun c107 => ?_)
        · have hG := f_in c107 hG
          refine lv_iload_n hx hb dX8_readNumber_115 rfl (lv_at hl 1 rfl) ?_
          cases hG
          exact T107 _ _ _ hP hS (lv_sub hl [2, 0] rfl)
        · have hG := f_ip c107 hG
          refine lv_iload_n hx hb dX8_readNumber_110 rfl (lv_at hl 1 rfl) ?_
          refine lv_ineg hx hb dX8_readNumber_111 ?_
          refine lv_goto (tgt := 116) hx hb dX8_readNumber_112 (by decide) ?_
          cases hG
          exact T107 _ _ _ hP hS (lv_sub hl [2, 0] rfl)
      · have hG := f_in c61 hG
        refine lv_bipush (v := 10) hx hb dX8_readNumber_64 (by decide) ?_
        refine lv_iload_n hx hb dX8_readNumber_66 rfl (lv_at hl 1 rfl) ?_
        refine lv_imul hx hb dX8_readNumber_67 ?_
        refine lv_aload_n hx hb dX8_readNumber_68 rfl (lv_at hl 2 rfl) ?_
        refine lv_iload_n hx hb dX8_readNumber_69 rfl (lv_at hl 0 rfl) ?_
        obtain ⟨r70, σ70, hC70, hG⟩ := f_bd hG
        refine iv_X8_129 F hS hP (c_X8_letterAt l E N (o7 + (1 : Int32)) σ58 _ _ hC70) ⟨Nat.le_of_ble_eq_true rfl, Nat.le_of_ble_eq_true rfl⟩ hl.1 (Nat.le_of_ble_eq_true rfl) dX8_readNumber_70 ⟨Nat.zero_le _, Nat.zero_le _⟩ (fun H locs hP hS => ?_)
        refine lv_iadd hx hb dX8_readNumber_73 ?_
        refine lv_bipush (v := 48) hx hb dX8_readNumber_74 (by decide) ?_
        refine lv_isub hx hb dX8_readNumber_76 ?_
        refine lv_topi (fun v77 e77 => ?_)
        have hG := f_lt hG e77
        refine lv_istore_n (lv' := [(3, .int v77), (2, .int (o7 + (1 : Int32))), (0, .ref (E.2.1 61)), (1, .int a1)]) hx hb dX8_readNumber_77 rfl hl (by decide) rfl (fun ls hl => ?_)
        refine lv_iload_n hx hb dX8_readNumber_78 rfl (lv_at hl 0 rfl) ?_
        obtain ⟨r79, σ79, hC79, hG⟩ := f_bd hG
        refine iv_X8_132 F hS hP (c_X8_isNumber l E N v77 σ70 _ _ hC79) ⟨Nat.le_of_ble_eq_true rfl, Nat.le_of_ble_eq_true rfl⟩ hl.1 (Nat.le_of_ble_eq_true rfl) dX8_readNumber_79 ⟨Nat.zero_le _, Nat.zero_le _⟩ (fun H locs hP hS => ?_)
        refine lv_if_ne (tgt := 89) hx hb dX8_readNumber_82 (by decide) (fun c82 => ?_) (fun c82 => ?_)
        · have hG := f_in c82 hG
          refine lv_iinc (v := ((o7 + (1 : Int32)) + (1 : Int32))) (lv' := [(2, .int ((o7 + (1 : Int32)) + (1 : Int32))), (3, .int v77), (0, .ref (E.2.1 61)), (1, .int a1)]) hx hb dX8_readNumber_89 hl (k := 1) rfl (by rfl) (by decide) rfl (fun ls hl => ?_)
          refine lv_aload_n hx hb dX8_readNumber_92 rfl (lv_at hl 2 rfl) ?_
          refine gf_X8_72 F hP dX8_readNumber_93 ?_
          refine lv_aload_n hx hb dX8_readNumber_96 rfl (lv_at hl 2 rfl) ?_
          refine gf_X8_135 F hP dX8_readNumber_97 ?_
          refine lv_aload_n hx hb dX8_readNumber_100 rfl (lv_at hl 2 rfl) ?_
          refine lv_iload_n hx hb dX8_readNumber_101 rfl (lv_at hl 3 rfl) ?_
          obtain ⟨r102, σ102, hC102, hG⟩ := f_bd hG
          refine iv_X8_129 F hS hP (c_X8_letterAt l E N a1 σ79 _ _ hC102) ⟨Nat.le_of_ble_eq_true rfl, Nat.le_of_ble_eq_true rfl⟩ hl.1 (Nat.le_of_ble_eq_true rfl) dX8_readNumber_102 ⟨Nat.zero_le _, Nat.zero_le _⟩ (fun H locs hP hS => ?_)
          refine lv_bipush (v := 45) hx hb dX8_readNumber_105 (by decide) ?_
          obtain ⟨o107, σj107, hT107, hG⟩ := f_bd hG
          have T107 : ∀ (H : Heap) (locs : List Loc) (ls : Array Slot), f_h E σj107 H → va_S (f_A E) s.heap H locs → lv_has ls 4 [(0, .ref (E.2.1 61)), (2, .int ((o7 + (1 : Int32)) + (1 : Int32)))] → W p l e rm_X8_readNumber s m args below meth c H locs 0 0 Q (F0 m 116 ls [.int o107, .int (σ79.1 61 28), .ref (E.2.1 82)]) := by
            intro H locs ls hP hS hl
            obtain ⟨r116, σ116, hC116, hG⟩ := f_bd hG
            refine iv_X8_138 F hS hP (c_X8_kindOf l E N o107 σj107 _ _ hC116) ⟨Nat.le_of_ble_eq_true rfl, Nat.le_of_ble_eq_true rfl⟩ hl.1 (Nat.le_of_ble_eq_true rfl) dX8_readNumber_116 ⟨Nat.zero_le _, Nat.zero_le _⟩ (fun H locs hP hS => ?_)
            obtain ⟨h119, hG⟩ := f_gd hG
            have i119 := f_fin h119
            refine x_iast F hS hP rfl rfl i119 dX8_readNumber_119 (fun H locs hP hS => ?_)
            obtain ⟨σ119, e119⟩ : ∃ t : fS, t = sI σ116 82 ((σ79.1 61 28)).toNatClampNeg r116 := ⟨_, rfl⟩
            rw [← e119] at hP
            have hG := f_lt hG e119
            refine lv_aload_n hx hb dX8_readNumber_120 rfl (lv_at hl 0 rfl) ?_
            refine lv_dup hx hb dX8_readNumber_121 rfl ?_
            refine gf_X8_135 F hP dX8_readNumber_122 ?_
            refine lv_iconst (v := 1) hx hb dX8_readNumber_125 (by decide) ?_
            refine lv_iadd hx hb dX8_readNumber_126 ?_
            refine pf_X8_135 F hS hP dX8_readNumber_127 (fun H locs hP hS => ?_)
            obtain ⟨σ127, e127⟩ : ∃ t : fS, t = sI σ119 61 28 ((σ119.1 61 28) + (1 : Int32)) := ⟨_, rfl⟩
            rw [← e127] at hP
            have hG := f_lt hG e127
            refine lv_iload_n hx hb dX8_readNumber_130 rfl (lv_at hl 1 rfl) ?_
            exact x_ri hR hS hP hG dX8_readNumber_131
          have hG := hT107
          clear hT107
          refine lv_icmp_ne (tgt := 115) hx hb dX8_readNumber_107 (by decide) (fun c107 => ?_) (fun c107 => ?_)
          · have hG := f_in c107 hG
            refine lv_iload_n hx hb dX8_readNumber_115 rfl (lv_at hl 1 rfl) ?_
            cases hG
            exact T107 _ _ _ hP hS (lv_sub hl [2, 0] rfl)
          · have hG := f_ip c107 hG
            refine lv_iload_n hx hb dX8_readNumber_110 rfl (lv_at hl 1 rfl) ?_
            refine lv_ineg hx hb dX8_readNumber_111 ?_
            refine lv_goto (tgt := 116) hx hb dX8_readNumber_112 (by decide) ?_
            cases hG
            exact T107 _ _ _ hP hS (lv_sub hl [2, 0] rfl)
        · have hG := f_ip c82 hG
          refine lv_iconst (v := -1) hx hb dX8_readNumber_85 (by decide) ?_
          refine lv_iload_n hx hb dX8_readNumber_86 rfl (lv_at hl 1 rfl) ?_
          refine lv_isub hx hb dX8_readNumber_87 ?_
          exact x_ri hR hS hP hG dX8_readNumber_88
    · have hG := f_ip c30 hG
      refine lv_iconst (v := -1) hx hb dX8_readNumber_33 (by decide) ?_
      refine lv_iload_n hx hb dX8_readNumber_34 rfl (lv_at hl 0 rfl) ?_
      refine lv_isub hx hb dX8_readNumber_35 ?_
      exact x_ri hR hS hP hG dX8_readNumber_36
  have hG := hT7
  clear hT7
  refine lv_icmp_ne (tgt := 16) hx hb dX8_readNumber_7 (by decide) (fun c7 => ?_) (fun c7 => ?_)
  · have hG := f_in c7 hG
    refine lv_iload_n hx hb dX8_readNumber_16 rfl (lv_at hl 1 rfl) ?_
    cases hG
    exact T7 _ _ _ hP hS (lv_sub hl [0, 1] rfl)
  · have hG := f_ip c7 hG
    refine lv_iload_n hx hb dX8_readNumber_10 rfl (lv_at hl 1 rfl) ?_
    refine lv_iconst (v := 1) hx hb dX8_readNumber_11 (by decide) ?_
    refine lv_iadd hx hb dX8_readNumber_12 ?_
    refine lv_goto (tgt := 17) hx hb dX8_readNumber_13 (by decide) ?_
    cases hG
    exact T7 _ _ _ hP hS (lv_sub hl [0, 1] rfl)
theorem dX8_read_0 : decode cX8_read 0 = .ok (.aload_n 0, 1) := by decide +kernel
theorem dX8_read_1 : decode cX8_read 1 = .ok (.iconst 0, 1) := by decide +kernel
theorem dX8_read_2 : decode cX8_read 2 = .ok (.putfield 135, 3) := by decide +kernel
theorem dX8_read_5 : decode cX8_read 5 = .ok (.aload_n 0, 1) := by decide +kernel
theorem dX8_read_6 : decode cX8_read 6 = .ok (.iconst 0, 1) := by decide +kernel
theorem dX8_read_7 : decode cX8_read 7 = .ok (.putfield 141, 3) := by decide +kernel
theorem dX8_read_10 : decode cX8_read 10 = .ok (.aload_n 0, 1) := by decide +kernel
theorem dX8_read_11 : decode cX8_read 11 = .ok (.iconst 0, 1) := by decide +kernel
theorem dX8_read_12 : decode cX8_read 12 = .ok (.invokevirtual 145, 3) := by decide +kernel
theorem dX8_read_15 : decode cX8_read 15 = .ok (.istore_n 1, 1) := by decide +kernel
theorem dX8_read_16 : decode cX8_read 16 = .ok (.iload_n 1, 1) := by decide +kernel
theorem dX8_read_17 : decode cX8_read 17 = .ok (.ifCond .lt 32, 3) := by decide +kernel
theorem dX8_read_20 : decode cX8_read 20 = .ok (.aload_n 0, 1) := by decide +kernel
theorem dX8_read_21 : decode cX8_read 21 = .ok (.iload_n 1, 1) := by decide +kernel
theorem dX8_read_22 : decode cX8_read 22 = .ok (.invokevirtual 129, 3) := by decide +kernel
theorem dX8_read_25 : decode cX8_read 25 = .ok (.bipush 44, 2) := by decide +kernel
theorem dX8_read_27 : decode cX8_read 27 = .ok (.if_icmp .ne 22, 3) := by decide +kernel
theorem dX8_read_30 : decode cX8_read 30 = .ok (.aload_n 0, 1) := by decide +kernel
theorem dX8_read_31 : decode cX8_read 31 = .ok (.getfield 135, 3) := by decide +kernel
theorem dX8_read_34 : decode cX8_read 34 = .ok (.iconst 4, 1) := by decide +kernel
theorem dX8_read_35 : decode cX8_read 35 = .ok (.if_icmp .ge 14, 3) := by decide +kernel
theorem dX8_read_38 : decode cX8_read 38 = .ok (.aload_n 0, 1) := by decide +kernel
theorem dX8_read_39 : decode cX8_read 39 = .ok (.iload_n 1, 1) := by decide +kernel
theorem dX8_read_40 : decode cX8_read 40 = .ok (.iconst 1, 1) := by decide +kernel
theorem dX8_read_41 : decode cX8_read 41 = .ok (.iadd, 1) := by decide +kernel
theorem dX8_read_42 : decode cX8_read 42 = .ok (.invokevirtual 145, 3) := by decide +kernel
theorem dX8_read_45 : decode cX8_read 45 = .ok (.istore_n 1, 1) := by decide +kernel
theorem dX8_read_46 : decode cX8_read 46 = .ok (.goto (-30), 3) := by decide +kernel
theorem dX8_read_49 : decode cX8_read 49 = .ok (.aload_n 0, 1) := by decide +kernel
theorem dX8_read_50 : decode cX8_read 50 = .ok (.iload_n 1, 1) := by decide +kernel
theorem dX8_read_51 : decode cX8_read 51 = .ok (.ifCond .lt 15, 3) := by decide +kernel
theorem dX8_read_54 : decode cX8_read 54 = .ok (.iload_n 1, 1) := by decide +kernel
theorem dX8_read_55 : decode cX8_read 55 = .ok (.aload_n 0, 1) := by decide +kernel
theorem dX8_read_56 : decode cX8_read 56 = .ok (.getfield 126, 3) := by decide +kernel
theorem dX8_read_59 : decode cX8_read 59 = .ok (.if_icmp .ne 7, 3) := by decide +kernel
theorem dX8_read_62 : decode cX8_read 62 = .ok (.iconst 1, 1) := by decide +kernel
theorem dX8_read_63 : decode cX8_read 63 = .ok (.goto 4, 3) := by decide +kernel
theorem dX8_read_66 : decode cX8_read 66 = .ok (.iconst 0, 1) := by decide +kernel
theorem dX8_read_67 : decode cX8_read 67 = .ok (.putfield 141, 3) := by decide +kernel
theorem dX8_read_70 : decode cX8_read 70 = .ok (.iload_n 1, 1) := by decide +kernel
theorem dX8_read_71 : decode cX8_read 71 = .ok (.ifCond .lt 7, 3) := by decide +kernel
theorem dX8_read_74 : decode cX8_read 74 = .ok (.iload_n 1, 1) := by decide +kernel
theorem dX8_read_75 : decode cX8_read 75 = .ok (.goto 6, 3) := by decide +kernel
theorem dX8_read_78 : decode cX8_read 78 = .ok (.iconst (-1), 1) := by decide +kernel
theorem dX8_read_79 : decode cX8_read 79 = .ok (.iload_n 1, 1) := by decide +kernel
theorem dX8_read_80 : decode cX8_read 80 = .ok (.isub, 1) := by decide +kernel
theorem dX8_read_81 : decode cX8_read 81 = .ok (.ireturn, 1) := by decide +kernel
set_option maxHeartbeats 4000000 in
set_option maxRecDepth 100000 in
theorem c_X8_read (l : Launch) (E : fEv) (N : Nat)  (σ : fS) (r : Int32) (τ : fS) (hG : g_X8_read N  σ = some (r, τ)) : fM l E yX8_read (.code yX8_read cX8_read 2 (some .int)) rm_X8_read [.ref (E.2.1 61)] σ τ (some (.int r)) := by
  refine f_openI (by decide) (Nat.le_of_ble_eq_true rfl) ?_
  intro p e s m below meth c args Q F hR hP ls hl
  have hx := F.1.1
  have hb := F.1.2.1
  have hown := F.1.2.2.2.1
  have hts := F.1.2.2.2.2
  have hS : va_S (f_A E) s.heap s.heap [] := va_S.rf
  skip
  have hl : lv_has ls 2 [(0, .ref (E.2.1 61))] := hl
  unfold g_X8_read at hG
  refine lv_aload_n hx hb dX8_read_0 rfl (lv_at hl 0 rfl) ?_
  refine lv_iconst (v := 0) hx hb dX8_read_1 (by decide) ?_
  refine pf_X8_135 F hS hP dX8_read_2 (fun H locs hP hS => ?_)
  obtain ⟨σ2, e2⟩ : ∃ t : fS, t = sI σ 61 28 (0 : Int32) := ⟨_, rfl⟩
  rw [← e2] at hP
  have hG := f_lt hG e2
  refine lv_aload_n hx hb dX8_read_5 rfl (lv_at hl 0 rfl) ?_
  refine lv_iconst (v := 0) hx hb dX8_read_6 (by decide) ?_
  refine pf_X8_141 F hS hP (Or.inl rfl) dX8_read_7 (fun H locs hP hS => ?_)
  obtain ⟨σ7, e7⟩ : ∃ t : fS, t = sI σ2 61 27 (0 : Int32) := ⟨_, rfl⟩
  rw [← e7] at hP
  have hG := f_lt hG e7
  refine lv_aload_n hx hb dX8_read_10 rfl (lv_at hl 0 rfl) ?_
  refine lv_iconst (v := 0) hx hb dX8_read_11 (by decide) ?_
  obtain ⟨r12, σ12, hC12, hG⟩ := f_bd hG
  refine iv_X8_145 F hS hP (c_X8_readNumber l E N (0 : Int32) σ7 _ _ hC12) ⟨Nat.le_of_ble_eq_true rfl, Nat.le_of_ble_eq_true rfl⟩ hl.1 (Nat.le_of_ble_eq_true rfl) dX8_read_12 ⟨Nat.zero_le _, Nat.zero_le _⟩ (fun H locs hP hS => ?_)
  refine lv_istore_n (lv' := [(1, .int r12), (0, .ref (E.2.1 61))]) hx hb dX8_read_15 rfl hl (by decide) rfl (fun ls hl => ?_)
  obtain ⟨o16, σl16, hT16, hG⟩ := f_bd hG
  have T16 : ∀ (H : Heap) (locs : List Loc) (ls : Array Slot), f_h E σl16 H → va_S (f_A E) s.heap H locs → lv_has ls 2 [(0, .ref (E.2.1 61)), (1, .int o16)] → W p l e rm_X8_read s m args below meth c H locs 0 0 Q (F0 m 49 ls []) := by
    intro H locs ls hP hS hl
    refine lv_aload_n hx hb dX8_read_49 rfl (lv_at hl 0 rfl) ?_
    refine lv_iload_n hx hb dX8_read_50 rfl (lv_at hl 1 rfl) ?_
    obtain ⟨o51, σj51, hT51, hG⟩ := f_bd hG
    have T51 : ∀ (H : Heap) (locs : List Loc) (ls : Array Slot), f_h E σj51 H → va_S (f_A E) s.heap H locs → lv_has ls 2 [(1, .int o16)] → W p l e rm_X8_read s m args below meth c H locs 0 0 Q (F0 m 67 ls [.int o51, .ref (E.2.1 61)]) := by
      intro H locs ls hP hS hl
      obtain ⟨h67, hG⟩ := f_gd hG
      refine pf_X8_141 F hS hP (f_isB h67) dX8_read_67 (fun H locs hP hS => ?_)
      obtain ⟨σ67, e67⟩ : ∃ t : fS, t = sI σj51 61 27 o51 := ⟨_, rfl⟩
      rw [← e67] at hP
      have hG := f_lt hG e67
      refine lv_iload_n hx hb dX8_read_70 rfl (lv_at hl 0 rfl) ?_
      refine lv_if_lt (tgt := 78) hx hb dX8_read_71 (by decide) (fun c71 => ?_) (fun c71 => ?_)
      · have hG := f_ip c71 hG
        refine lv_iconst (v := -1) hx hb dX8_read_78 (by decide) ?_
        refine lv_iload_n hx hb dX8_read_79 rfl (lv_at hl 0 rfl) ?_
        refine lv_isub hx hb dX8_read_80 ?_
        exact x_ri hR hS hP hG dX8_read_81
      · have hG := f_in c71 hG
        refine lv_iload_n hx hb dX8_read_74 rfl (lv_at hl 0 rfl) ?_
        refine lv_goto (tgt := 81) hx hb dX8_read_75 (by decide) ?_
        exact x_ri hR hS hP hG dX8_read_81
    have hG := hT51
    clear hT51
    refine lv_if_lt (tgt := 66) hx hb dX8_read_51 (by decide) (fun c51 => ?_) (fun c51 => ?_)
    · have hG := f_ip c51 hG
      refine lv_iconst (v := 0) hx hb dX8_read_66 (by decide) ?_
      cases hG
      exact T51 _ _ _ hP hS (lv_sub hl [1] rfl)
    · have hG := f_in c51 hG
      refine lv_iload_n hx hb dX8_read_54 rfl (lv_at hl 1 rfl) ?_
      refine lv_aload_n hx hb dX8_read_55 rfl (lv_at hl 0 rfl) ?_
      refine gf_X8_126 F hP dX8_read_56 ?_
      refine lv_icmp_ne (tgt := 66) hx hb dX8_read_59 (by decide) (fun c59 => ?_) (fun c59 => ?_)
      · have hG := f_in c59 hG
        refine lv_iconst (v := 0) hx hb dX8_read_66 (by decide) ?_
        cases hG
        exact T51 _ _ _ hP hS (lv_sub hl [1] rfl)
      · have hG := f_ip c59 hG
        refine lv_iconst (v := 1) hx hb dX8_read_62 (by decide) ?_
        refine lv_goto (tgt := 67) hx hb dX8_read_63 (by decide) ?_
        cases hG
        exact T51 _ _ _ hP hS (lv_sub hl [1] rfl)
  have L16 : ∀ (n16 : Nat) (x16_1 : Int32) (σh16 : fS) (H : Heap) (locs : List Loc) (ls : Array Slot), f_h E σh16 H → va_S (f_A E) s.heap H locs → lv_has ls 2 [(0, .ref (E.2.1 61)), (1, .int x16_1)] → lp_X8_read_16 N n16 x16_1 σh16 = some (o16, σl16) → W p l e rm_X8_read s m args below meth c H locs 0 0 Q (F0 m 16 ls []) := by
    intro n16
    induction n16 with
    | zero =>
      intro x16_1 σh16 H locs ls hP hS hl hG
      rw [lp_X8_read_16] at hG
      cases hG
    | succ n16 ih16 =>
      intro x16_1 σh16 H locs ls hP hS hl hG
      rw [lp_X8_read_16] at hG
      refine lv_iload_n hx hb dX8_read_16 rfl (lv_at hl 1 rfl) ?_
      refine lv_if_lt (tgt := 49) hx hb dX8_read_17 (by decide) (fun c17 => ?_) (fun c17 => ?_)
      · have hG := f_ip c17 hG
        cases hG
        exact T16 _ _ _ hP hS (lv_sub hl [0, 1] rfl)
      · have hG := f_in c17 hG
        refine lv_aload_n hx hb dX8_read_20 rfl (lv_at hl 0 rfl) ?_
        refine lv_iload_n hx hb dX8_read_21 rfl (lv_at hl 1 rfl) ?_
        obtain ⟨r22, σ22, hC22, hG⟩ := f_bd hG
        refine iv_X8_129 F hS hP (c_X8_letterAt l E N x16_1 σh16 _ _ hC22) ⟨Nat.le_of_ble_eq_true rfl, Nat.le_of_ble_eq_true rfl⟩ hl.1 (Nat.le_of_ble_eq_true rfl) dX8_read_22 ⟨Nat.zero_le _, Nat.zero_le _⟩ (fun H locs hP hS => ?_)
        refine lv_bipush (v := 44) hx hb dX8_read_25 (by decide) ?_
        refine lv_icmp_ne (tgt := 49) hx hb dX8_read_27 (by decide) (fun c27 => ?_) (fun c27 => ?_)
        · have hG := f_in c27 hG
          cases hG
          exact T16 _ _ _ hP hS (lv_sub hl [0, 1] rfl)
        · have hG := f_ip c27 hG
          refine lv_aload_n hx hb dX8_read_30 rfl (lv_at hl 0 rfl) ?_
          refine gf_X8_135 F hP dX8_read_31 ?_
          refine lv_iconst (v := 4) hx hb dX8_read_34 (by decide) ?_
          refine lv_icmp_ge (tgt := 49) hx hb dX8_read_35 (by decide) (fun c35 => ?_) (fun c35 => ?_)
          · have hG := f_ip c35 hG
            cases hG
            exact T16 _ _ _ hP hS (lv_sub hl [0, 1] rfl)
          · have hG := f_in c35 hG
            refine lv_aload_n hx hb dX8_read_38 rfl (lv_at hl 0 rfl) ?_
            refine lv_iload_n hx hb dX8_read_39 rfl (lv_at hl 1 rfl) ?_
            refine lv_iconst (v := 1) hx hb dX8_read_40 (by decide) ?_
            refine lv_iadd hx hb dX8_read_41 ?_
            obtain ⟨r42, σ42, hC42, hG⟩ := f_bd hG
            refine iv_X8_145 F hS hP (c_X8_readNumber l E N (x16_1 + (1 : Int32)) σ22 _ _ hC42) ⟨Nat.le_of_ble_eq_true rfl, Nat.le_of_ble_eq_true rfl⟩ hl.1 (Nat.le_of_ble_eq_true rfl) dX8_read_42 ⟨Nat.zero_le _, Nat.zero_le _⟩ (fun H locs hP hS => ?_)
            refine lv_istore_n (lv' := [(1, .int r42), (0, .ref (E.2.1 61))]) hx hb dX8_read_45 rfl hl (by decide) rfl (fun ls hl => ?_)
            refine lv_goto (tgt := 16) hx hb dX8_read_46 (by decide) ?_
            exact ih16 r42 σ42 _ _ _ hP hS (lv_sub hl [1, 0] rfl) hG
  exact L16 N r12 σ12 _ _ _ hP hS (lv_sub hl [1, 0] rfl) hT16
theorem dX8_fault_0 : decode cX8_fault 0 = .ok (.aload_n 0, 1) := by decide +kernel
theorem dX8_fault_1 : decode cX8_fault 1 = .ok (.invokevirtual 148, 3) := by decide +kernel
theorem dX8_fault_4 : decode cX8_fault 4 = .ok (.ireturn, 1) := by decide +kernel
set_option maxHeartbeats 4000000 in
set_option maxRecDepth 100000 in
theorem c_X8_fault (l : Launch) (E : fEv) (N : Nat)  (σ : fS) (r : Int32) (τ : fS) (hG : g_X8_fault N  σ = some (r, τ)) : fM l E yX8_fault (.code yX8_fault cX8_fault 1 (some .int)) rm_X8_fault [.ref (E.2.1 61)] σ τ (some (.int r)) := by
  refine f_openI (by decide) (Nat.le_of_ble_eq_true rfl) ?_
  intro p e s m below meth c args Q F hR hP ls hl
  have hx := F.1.1
  have hb := F.1.2.1
  have hown := F.1.2.2.2.1
  have hts := F.1.2.2.2.2
  have hS : va_S (f_A E) s.heap s.heap [] := va_S.rf
  skip
  have hl : lv_has ls 1 [(0, .ref (E.2.1 61))] := hl
  unfold g_X8_fault at hG
  refine lv_aload_n hx hb dX8_fault_0 rfl (lv_at hl 0 rfl) ?_
  obtain ⟨r1, σ1, hC1, hG⟩ := f_bd hG
  refine iv_X8_148 F hS hP (c_X8_read l E N σ _ _ hC1) ⟨Nat.le_of_ble_eq_true rfl, Nat.le_of_ble_eq_true rfl⟩ hl.1 (Nat.le_of_ble_eq_true rfl) dX8_fault_1 ⟨Nat.zero_le _, Nat.zero_le _⟩ (fun H locs hP hS => ?_)
  exact x_ri hR hS hP hG dX8_fault_4
