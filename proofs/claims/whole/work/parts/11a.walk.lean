theorem dX0_empty_0 : decode cX0_empty 0 = .ok (.aload_n 0, 1) := by decide +kernel
theorem dX0_empty_1 : decode cX0_empty 1 = .ok (.iconst 0, 1) := by decide +kernel
theorem dX0_empty_2 : decode cX0_empty 2 = .ok (.putfield 15, 3) := by decide +kernel
theorem dX0_empty_5 : decode cX0_empty 5 = .ok (.aload_n 0, 1) := by decide +kernel
theorem dX0_empty_6 : decode cX0_empty 6 = .ok (.iconst 0, 1) := by decide +kernel
theorem dX0_empty_7 : decode cX0_empty 7 = .ok (.putfield 19, 3) := by decide +kernel
theorem dX0_empty_10 : decode cX0_empty 10 = .ok (.aload_n 0, 1) := by decide +kernel
theorem dX0_empty_11 : decode cX0_empty 11 = .ok (.iconst 0, 1) := by decide +kernel
theorem dX0_empty_12 : decode cX0_empty 12 = .ok (.putfield 22, 3) := by decide +kernel
theorem dX0_empty_15 : decode cX0_empty 15 = .ok (.return_, 1) := by decide +kernel
set_option maxHeartbeats 4000000 in
set_option maxRecDepth 100000 in
theorem c_X0_empty (l : Launch) (E : fEv) (N : Nat) (k : Nat) (hk : kd k = 0) (σ : fS) (τ : fS) (hG : g_X0_empty N k σ = some τ) : fM l E yX0_empty (.code yX0_empty cX0_empty 1 none) rm_X0_empty [.ref (E.2.1 k)] σ τ none := by
  refine f_openV (by decide) (Nat.le_of_ble_eq_true rfl) ?_
  intro p e s m below meth c args Q F hR hP ls hl
  have hx := F.1.1
  have hb := F.1.2.1
  have hown := F.1.2.2.2.1
  have hts := F.1.2.2.2.2
  have hS : va_S (f_A E) s.heap s.heap [] := va_S.rf
  skip
  have hl : lv_has ls 1 [(0, .ref (E.2.1 k))] := hl
  unfold g_X0_empty at hG
  refine lv_aload_n hx hb dX0_empty_0 rfl (lv_at hl 0 rfl) ?_
  refine lv_iconst (v := 0) hx hb dX0_empty_1 (by decide) ?_
  refine pf_X0_15 F hS hP hk dX0_empty_2 (fun H locs hP hS => ?_)
  obtain ⟨σ2, e2⟩ : ∃ t : fS, t = sI σ k 1 (0 : Int32) := ⟨_, rfl⟩
  rw [← e2] at hP
  have hG := f_lt hG e2
  refine lv_aload_n hx hb dX0_empty_5 rfl (lv_at hl 0 rfl) ?_
  refine lv_iconst (v := 0) hx hb dX0_empty_6 (by decide) ?_
  refine pf_X0_19 F hS hP hk dX0_empty_7 (fun H locs hP hS => ?_)
  obtain ⟨σ7, e7⟩ : ∃ t : fS, t = sI σ2 k 2 (0 : Int32) := ⟨_, rfl⟩
  rw [← e7] at hP
  have hG := f_lt hG e7
  refine lv_aload_n hx hb dX0_empty_10 rfl (lv_at hl 0 rfl) ?_
  refine lv_iconst (v := 0) hx hb dX0_empty_11 (by decide) ?_
  refine pf_X0_22 F hS hP hk dX0_empty_12 (fun H locs hP hS => ?_)
  obtain ⟨σ12, e12⟩ : ∃ t : fS, t = sI σ7 k 3 (0 : Int32) := ⟨_, rfl⟩
  rw [← e12] at hP
  have hG := f_lt hG e12
  exact x_rv hR hS hP hG dX0_empty_15
theorem dX0_add_0 : decode cX0_add 0 = .ok (.aload_n 0, 1) := by decide +kernel
theorem dX0_add_1 : decode cX0_add 1 = .ok (.getfield 15, 3) := by decide +kernel
theorem dX0_add_4 : decode cX0_add 4 = .ok (.ifCond .lt 31, 3) := by decide +kernel
theorem dX0_add_7 : decode cX0_add 7 = .ok (.aload_n 0, 1) := by decide +kernel
theorem dX0_add_8 : decode cX0_add 8 = .ok (.getfield 15, 3) := by decide +kernel
theorem dX0_add_11 : decode cX0_add 11 = .ok (.iconst 4, 1) := by decide +kernel
theorem dX0_add_12 : decode cX0_add 12 = .ok (.if_icmp .ge 23, 3) := by decide +kernel
theorem dX0_add_15 : decode cX0_add 15 = .ok (.aload_n 0, 1) := by decide +kernel
theorem dX0_add_16 : decode cX0_add 16 = .ok (.getfield 9, 3) := by decide +kernel
theorem dX0_add_19 : decode cX0_add 19 = .ok (.aload_n 0, 1) := by decide +kernel
theorem dX0_add_20 : decode cX0_add 20 = .ok (.getfield 15, 3) := by decide +kernel
theorem dX0_add_23 : decode cX0_add 23 = .ok (.iload_n 1, 1) := by decide +kernel
theorem dX0_add_24 : decode cX0_add 24 = .ok (.iastore, 1) := by decide +kernel
theorem dX0_add_25 : decode cX0_add 25 = .ok (.aload_n 0, 1) := by decide +kernel
theorem dX0_add_26 : decode cX0_add 26 = .ok (.dup, 1) := by decide +kernel
theorem dX0_add_27 : decode cX0_add 27 = .ok (.getfield 15, 3) := by decide +kernel
theorem dX0_add_30 : decode cX0_add 30 = .ok (.iconst 1, 1) := by decide +kernel
theorem dX0_add_31 : decode cX0_add 31 = .ok (.iadd, 1) := by decide +kernel
theorem dX0_add_32 : decode cX0_add 32 = .ok (.putfield 15, 3) := by decide +kernel
theorem dX0_add_35 : decode cX0_add 35 = .ok (.return_, 1) := by decide +kernel
set_option maxHeartbeats 4000000 in
set_option maxRecDepth 100000 in
theorem c_X0_add (l : Launch) (E : fEv) (N : Nat) (k : Nat) (a1 : Int32) (hk : kd k = 0) (σ : fS) (τ : fS) (hG : g_X0_add N k a1 σ = some τ) : fM l E yX0_add (.code yX0_add cX0_add 2 none) rm_X0_add [.ref (E.2.1 k), .int a1] σ τ none := by
  refine f_openV (by decide) (Nat.le_of_ble_eq_true rfl) ?_
  intro p e s m below meth c args Q F hR hP ls hl
  have hx := F.1.1
  have hb := F.1.2.1
  have hown := F.1.2.2.2.1
  have hts := F.1.2.2.2.2
  have hS : va_S (f_A E) s.heap s.heap [] := va_S.rf
  skip
  have hl : lv_has ls 2 [(0, .ref (E.2.1 k)), (1, .int a1)] := hl
  unfold g_X0_add at hG
  refine lv_aload_n hx hb dX0_add_0 rfl (lv_at hl 0 rfl) ?_
  refine gf_X0_15 F hP hk dX0_add_1 ?_
  refine lv_if_lt (tgt := 35) hx hb dX0_add_4 (by decide) (fun c4 => ?_) (fun c4 => ?_)
  · have hG := f_ip c4 hG
    exact x_rv hR hS hP hG dX0_add_35
  · have hG := f_in c4 hG
    refine lv_aload_n hx hb dX0_add_7 rfl (lv_at hl 0 rfl) ?_
    refine gf_X0_15 F hP hk dX0_add_8 ?_
    refine lv_iconst (v := 4) hx hb dX0_add_11 (by decide) ?_
    refine lv_icmp_ge (tgt := 35) hx hb dX0_add_12 (by decide) (fun c12 => ?_) (fun c12 => ?_)
    · have hG := f_ip c12 hG
      exact x_rv hR hS hP hG dX0_add_35
    · have hG := f_in c12 hG
      refine lv_aload_n hx hb dX0_add_15 rfl (lv_at hl 0 rfl) ?_
      refine gf_X0_9 F hP hk dX0_add_16 ?_
      refine lv_aload_n hx hb dX0_add_19 rfl (lv_at hl 0 rfl) ?_
      refine gf_X0_15 F hP hk dX0_add_20 ?_
      refine lv_iload_n hx hb dX0_add_23 rfl (lv_at hl 1 rfl) ?_
      obtain ⟨h24, hG⟩ := f_gd hG
      have i24 := f_fin h24
      refine x_iast F hS hP (kt_k hk) (kt_l hk) i24 dX0_add_24 (fun H locs hP hS => ?_)
      obtain ⟨σ24, e24⟩ : ∃ t : fS, t = sI σ (k + 1) ((σ.1 k 1)).toNatClampNeg a1 := ⟨_, rfl⟩
      rw [← e24] at hP
      have hG := f_lt hG e24
      refine lv_aload_n hx hb dX0_add_25 rfl (lv_at hl 0 rfl) ?_
      refine lv_dup hx hb dX0_add_26 rfl ?_
      refine gf_X0_15 F hP hk dX0_add_27 ?_
      refine lv_iconst (v := 1) hx hb dX0_add_30 (by decide) ?_
      refine lv_iadd hx hb dX0_add_31 ?_
      refine pf_X0_15 F hS hP hk dX0_add_32 (fun H locs hP hS => ?_)
      obtain ⟨σ32, e32⟩ : ∃ t : fS, t = sI σ24 k 1 ((σ24.1 k 1) + (1 : Int32)) := ⟨_, rfl⟩
      rw [← e32] at hP
      have hG := f_lt hG e32
      exact x_rv hR hS hP hG dX0_add_35
theorem dX0_kindAt_0 : decode cX0_kindAt 0 = .ok (.iload_n 1, 1) := by decide +kernel
theorem dX0_kindAt_1 : decode cX0_kindAt 1 = .ok (.ifCond .lt 25, 3) := by decide +kernel
theorem dX0_kindAt_4 : decode cX0_kindAt 4 = .ok (.iload_n 1, 1) := by decide +kernel
theorem dX0_kindAt_5 : decode cX0_kindAt 5 = .ok (.aload_n 0, 1) := by decide +kernel
theorem dX0_kindAt_6 : decode cX0_kindAt 6 = .ok (.getfield 15, 3) := by decide +kernel
theorem dX0_kindAt_9 : decode cX0_kindAt 9 = .ok (.if_icmp .ge 17, 3) := by decide +kernel
theorem dX0_kindAt_12 : decode cX0_kindAt 12 = .ok (.iload_n 1, 1) := by decide +kernel
theorem dX0_kindAt_13 : decode cX0_kindAt 13 = .ok (.iconst 4, 1) := by decide +kernel
theorem dX0_kindAt_14 : decode cX0_kindAt 14 = .ok (.if_icmp .ge 12, 3) := by decide +kernel
theorem dX0_kindAt_17 : decode cX0_kindAt 17 = .ok (.aload_n 0, 1) := by decide +kernel
theorem dX0_kindAt_18 : decode cX0_kindAt 18 = .ok (.getfield 9, 3) := by decide +kernel
theorem dX0_kindAt_21 : decode cX0_kindAt 21 = .ok (.iload_n 1, 1) := by decide +kernel
theorem dX0_kindAt_22 : decode cX0_kindAt 22 = .ok (.iaload, 1) := by decide +kernel
theorem dX0_kindAt_23 : decode cX0_kindAt 23 = .ok (.goto 4, 3) := by decide +kernel
theorem dX0_kindAt_26 : decode cX0_kindAt 26 = .ok (.iconst 0, 1) := by decide +kernel
theorem dX0_kindAt_27 : decode cX0_kindAt 27 = .ok (.ireturn, 1) := by decide +kernel
set_option maxHeartbeats 4000000 in
set_option maxRecDepth 100000 in
theorem c_X0_kindAt (l : Launch) (E : fEv) (N : Nat) (k : Nat) (a1 : Int32) (hk : kd k = 0) (σ : fS) (r : Int32) (τ : fS) (hG : g_X0_kindAt N k a1 σ = some (r, τ)) : fM l E yX0_kindAt (.code yX0_kindAt cX0_kindAt 2 (some .int)) rm_X0_kindAt [.ref (E.2.1 k), .int a1] σ τ (some (.int r)) := by
  refine f_openI (by decide) (Nat.le_of_ble_eq_true rfl) ?_
  intro p e s m below meth c args Q F hR hP ls hl
  have hx := F.1.1
  have hb := F.1.2.1
  have hown := F.1.2.2.2.1
  have hts := F.1.2.2.2.2
  have hS : va_S (f_A E) s.heap s.heap [] := va_S.rf
  skip
  have hl : lv_has ls 2 [(0, .ref (E.2.1 k)), (1, .int a1)] := hl
  unfold g_X0_kindAt at hG
  refine lv_iload_n hx hb dX0_kindAt_0 rfl (lv_at hl 1 rfl) ?_
  refine lv_if_lt (tgt := 26) hx hb dX0_kindAt_1 (by decide) (fun c1 => ?_) (fun c1 => ?_)
  · have hG := f_ip c1 hG
    refine lv_iconst (v := 0) hx hb dX0_kindAt_26 (by decide) ?_
    exact x_ri hR hS hP hG dX0_kindAt_27
  · have hG := f_in c1 hG
    refine lv_iload_n hx hb dX0_kindAt_4 rfl (lv_at hl 1 rfl) ?_
    refine lv_aload_n hx hb dX0_kindAt_5 rfl (lv_at hl 0 rfl) ?_
    refine gf_X0_15 F hP hk dX0_kindAt_6 ?_
    refine lv_icmp_ge (tgt := 26) hx hb dX0_kindAt_9 (by decide) (fun c9 => ?_) (fun c9 => ?_)
    · have hG := f_ip c9 hG
      refine lv_iconst (v := 0) hx hb dX0_kindAt_26 (by decide) ?_
      exact x_ri hR hS hP hG dX0_kindAt_27
    · have hG := f_in c9 hG
      refine lv_iload_n hx hb dX0_kindAt_12 rfl (lv_at hl 1 rfl) ?_
      refine lv_iconst (v := 4) hx hb dX0_kindAt_13 (by decide) ?_
      refine lv_icmp_ge (tgt := 26) hx hb dX0_kindAt_14 (by decide) (fun c14 => ?_) (fun c14 => ?_)
      · have hG := f_ip c14 hG
        refine lv_iconst (v := 0) hx hb dX0_kindAt_26 (by decide) ?_
        exact x_ri hR hS hP hG dX0_kindAt_27
      · have hG := f_in c14 hG
        refine lv_aload_n hx hb dX0_kindAt_17 rfl (lv_at hl 0 rfl) ?_
        refine gf_X0_9 F hP hk dX0_kindAt_18 ?_
        refine lv_iload_n hx hb dX0_kindAt_21 rfl (lv_at hl 1 rfl) ?_
        obtain ⟨h22, hG⟩ := f_gd hG
        have i22 := f_fin h22
        refine x_iald F hP (kt_k hk) (kt_l hk) i22 dX0_kindAt_22 ?_
        refine lv_goto (tgt := 27) hx hb dX0_kindAt_23 (by decide) ?_
        exact x_ri hR hS hP hG dX0_kindAt_27
theorem dX0_addTimes_0 : decode cX0_addTimes 0 = .ok (.iconst 0, 1) := by decide +kernel
theorem dX0_addTimes_1 : decode cX0_addTimes 1 = .ok (.istore_n 3, 1) := by decide +kernel
theorem dX0_addTimes_2 : decode cX0_addTimes 2 = .ok (.iload_n 3, 1) := by decide +kernel
theorem dX0_addTimes_3 : decode cX0_addTimes 3 = .ok (.aload_n 1, 1) := by decide +kernel
theorem dX0_addTimes_4 : decode cX0_addTimes 4 = .ok (.getfield 15, 3) := by decide +kernel
theorem dX0_addTimes_7 : decode cX0_addTimes 7 = .ok (.if_icmp .ge 20, 3) := by decide +kernel
theorem dX0_addTimes_10 : decode cX0_addTimes 10 = .ok (.aload_n 0, 1) := by decide +kernel
theorem dX0_addTimes_11 : decode cX0_addTimes 11 = .ok (.aload_n 1, 1) := by decide +kernel
theorem dX0_addTimes_12 : decode cX0_addTimes 12 = .ok (.iload_n 3, 1) := by decide +kernel
theorem dX0_addTimes_13 : decode cX0_addTimes 13 = .ok (.invokevirtual 25, 3) := by decide +kernel
theorem dX0_addTimes_16 : decode cX0_addTimes 16 = .ok (.iload_n 2, 1) := by decide +kernel
theorem dX0_addTimes_17 : decode cX0_addTimes 17 = .ok (.ixor, 1) := by decide +kernel
theorem dX0_addTimes_18 : decode cX0_addTimes 18 = .ok (.invokevirtual 29, 3) := by decide +kernel
theorem dX0_addTimes_21 : decode cX0_addTimes 21 = .ok (.iinc 3 1, 3) := by decide +kernel
theorem dX0_addTimes_24 : decode cX0_addTimes 24 = .ok (.goto (-22), 3) := by decide +kernel
theorem dX0_addTimes_27 : decode cX0_addTimes 27 = .ok (.return_, 1) := by decide +kernel
set_option maxHeartbeats 4000000 in
set_option maxRecDepth 100000 in
theorem c_X0_addTimes (l : Launch) (E : fEv) (N : Nat) (k : Nat) (k1 : Nat) (a2 : Int32) (hk : kd k = 0) (hk1 : kd k1 = 0) (σ : fS) (τ : fS) (hG : g_X0_addTimes N k k1 a2 σ = some τ) : fM l E yX0_addTimes (.code yX0_addTimes cX0_addTimes 4 none) rm_X0_addTimes [.ref (E.2.1 k), .ref (E.2.1 k1), .int a2] σ τ none := by
  refine f_openV (by decide) (Nat.le_of_ble_eq_true rfl) ?_
  intro p e s m below meth c args Q F hR hP ls hl
  have hx := F.1.1
  have hb := F.1.2.1
  have hown := F.1.2.2.2.1
  have hts := F.1.2.2.2.2
  have hS : va_S (f_A E) s.heap s.heap [] := va_S.rf
  skip
  have hl : lv_has ls 4 [(0, .ref (E.2.1 k)), (1, .ref (E.2.1 k1)), (2, .int a2)] := hl
  unfold g_X0_addTimes at hG
  refine lv_iconst (v := 0) hx hb dX0_addTimes_0 (by decide) ?_
  refine lv_istore_n (lv' := [(3, .int (0 : Int32)), (0, .ref (E.2.1 k)), (1, .ref (E.2.1 k1)), (2, .int a2)]) hx hb dX0_addTimes_1 rfl hl (by decide) rfl (fun ls hl => ?_)
  obtain ⟨σl2, hT2, hG⟩ := f_bv hG
  have T2 : ∀ (H : Heap) (locs : List Loc) (ls : Array Slot), f_h E σl2 H → va_S (f_A E) s.heap H locs → lv_has ls 4 [] → W p l e rm_X0_addTimes s m args below meth c H locs 0 0 Q (F0 m 27 ls []) := by
    intro H locs ls hP hS hl
    exact x_rv hR hS hP hG dX0_addTimes_27
  have L2 : ∀ (n2 : Nat) (x2_3 : Int32) (σh2 : fS) (H : Heap) (locs : List Loc) (ls : Array Slot), f_h E σh2 H → va_S (f_A E) s.heap H locs → lv_has ls 4 [(0, .ref (E.2.1 k)), (1, .ref (E.2.1 k1)), (2, .int a2), (3, .int x2_3)] → lp_X0_addTimes_2 N k k1 a2 n2 x2_3 σh2 = some σl2 → W p l e rm_X0_addTimes s m args below meth c H locs 0 0 Q (F0 m 2 ls []) := by
    intro n2
    induction n2 with
    | zero =>
      intro x2_3 σh2 H locs ls hP hS hl hG
      rw [lp_X0_addTimes_2] at hG
      cases hG
    | succ n2 ih2 =>
      intro x2_3 σh2 H locs ls hP hS hl hG
      rw [lp_X0_addTimes_2] at hG
      refine lv_iload_n hx hb dX0_addTimes_2 rfl (lv_at hl 3 rfl) ?_
      refine lv_aload_n hx hb dX0_addTimes_3 rfl (lv_at hl 1 rfl) ?_
      refine gf_X0_15 F hP hk1 dX0_addTimes_4 ?_
      refine lv_icmp_ge (tgt := 27) hx hb dX0_addTimes_7 (by decide) (fun c7 => ?_) (fun c7 => ?_)
      · have hG := f_ip c7 hG
        cases hG
        exact T2 _ _ _ hP hS (lv_sub hl [] rfl)
      · have hG := f_in c7 hG
        refine lv_aload_n hx hb dX0_addTimes_10 rfl (lv_at hl 0 rfl) ?_
        refine lv_aload_n hx hb dX0_addTimes_11 rfl (lv_at hl 1 rfl) ?_
        refine lv_iload_n hx hb dX0_addTimes_12 rfl (lv_at hl 3 rfl) ?_
        obtain ⟨r13, σ13, hC13, hG⟩ := f_bd hG
        refine iv_X0_25 F hS hP hk1 (c_X0_kindAt l E N k1 x2_3 hk1 σh2 _ _ hC13) ⟨Nat.le_of_ble_eq_true rfl, Nat.le_of_ble_eq_true rfl⟩ hl.1 (Nat.le_of_ble_eq_true rfl) dX0_addTimes_13 ⟨Nat.zero_le _, Nat.zero_le _⟩ (fun H locs hP hS => ?_)
        refine lv_iload_n hx hb dX0_addTimes_16 rfl (lv_at hl 2 rfl) ?_
        refine lv_ixor hx hb dX0_addTimes_17 ?_
        obtain ⟨σ18, hC18, hG⟩ := f_bv hG
        refine iv_X0_29 F hS hP hk (c_X0_add l E N k (r13 ^^^ a2) hk σ13 _ hC18) ⟨Nat.le_of_ble_eq_true rfl, Nat.le_of_ble_eq_true rfl⟩ hl.1 (Nat.le_of_ble_eq_true rfl) dX0_addTimes_18 ⟨Nat.zero_le _, Nat.zero_le _⟩ (fun H locs hP hS => ?_)
        refine lv_iinc (v := (x2_3 + (1 : Int32))) (lv' := [(3, .int (x2_3 + (1 : Int32))), (0, .ref (E.2.1 k)), (1, .ref (E.2.1 k1)), (2, .int a2)]) hx hb dX0_addTimes_21 hl (k := 3) rfl (by rfl) (by decide) rfl (fun ls hl => ?_)
        refine lv_goto (tgt := 2) hx hb dX0_addTimes_24 (by decide) ?_
        exact ih2 (x2_3 + (1 : Int32)) σ18 _ _ _ hP hS (lv_sub hl [1, 2, 3, 0] rfl) hG
  exact L2 N (0 : Int32) σ _ _ _ hP hS (lv_sub hl [1, 2, 3, 0] rfl) hT2
theorem dX0_change_0 : decode cX0_change 0 = .ok (.iload_n 1, 1) := by decide +kernel
theorem dX0_change_1 : decode cX0_change 1 = .ok (.ifCond .lt 23, 3) := by decide +kernel
theorem dX0_change_4 : decode cX0_change 4 = .ok (.iload_n 1, 1) := by decide +kernel
theorem dX0_change_5 : decode cX0_change 5 = .ok (.aload_n 0, 1) := by decide +kernel
theorem dX0_change_6 : decode cX0_change 6 = .ok (.getfield 15, 3) := by decide +kernel
theorem dX0_change_9 : decode cX0_change 9 = .ok (.if_icmp .ge 15, 3) := by decide +kernel
theorem dX0_change_12 : decode cX0_change 12 = .ok (.iload_n 1, 1) := by decide +kernel
theorem dX0_change_13 : decode cX0_change 13 = .ok (.iconst 4, 1) := by decide +kernel
theorem dX0_change_14 : decode cX0_change 14 = .ok (.if_icmp .ge 10, 3) := by decide +kernel
theorem dX0_change_17 : decode cX0_change 17 = .ok (.aload_n 0, 1) := by decide +kernel
theorem dX0_change_18 : decode cX0_change 18 = .ok (.getfield 9, 3) := by decide +kernel
theorem dX0_change_21 : decode cX0_change 21 = .ok (.iload_n 1, 1) := by decide +kernel
theorem dX0_change_22 : decode cX0_change 22 = .ok (.iload_n 2, 1) := by decide +kernel
theorem dX0_change_23 : decode cX0_change 23 = .ok (.iastore, 1) := by decide +kernel
theorem dX0_change_24 : decode cX0_change 24 = .ok (.return_, 1) := by decide +kernel
set_option maxHeartbeats 4000000 in
set_option maxRecDepth 100000 in
theorem c_X0_change (l : Launch) (E : fEv) (N : Nat) (k : Nat) (a1 : Int32) (a2 : Int32) (hk : kd k = 0) (σ : fS) (τ : fS) (hG : g_X0_change N k a1 a2 σ = some τ) : fM l E yX0_change (.code yX0_change cX0_change 3 none) rm_X0_change [.ref (E.2.1 k), .int a1, .int a2] σ τ none := by
  refine f_openV (by decide) (Nat.le_of_ble_eq_true rfl) ?_
  intro p e s m below meth c args Q F hR hP ls hl
  have hx := F.1.1
  have hb := F.1.2.1
  have hown := F.1.2.2.2.1
  have hts := F.1.2.2.2.2
  have hS : va_S (f_A E) s.heap s.heap [] := va_S.rf
  skip
  have hl : lv_has ls 3 [(0, .ref (E.2.1 k)), (1, .int a1), (2, .int a2)] := hl
  unfold g_X0_change at hG
  refine lv_iload_n hx hb dX0_change_0 rfl (lv_at hl 1 rfl) ?_
  refine lv_if_lt (tgt := 24) hx hb dX0_change_1 (by decide) (fun c1 => ?_) (fun c1 => ?_)
  · have hG := f_ip c1 hG
    exact x_rv hR hS hP hG dX0_change_24
  · have hG := f_in c1 hG
    refine lv_iload_n hx hb dX0_change_4 rfl (lv_at hl 1 rfl) ?_
    refine lv_aload_n hx hb dX0_change_5 rfl (lv_at hl 0 rfl) ?_
    refine gf_X0_15 F hP hk dX0_change_6 ?_
    refine lv_icmp_ge (tgt := 24) hx hb dX0_change_9 (by decide) (fun c9 => ?_) (fun c9 => ?_)
    · have hG := f_ip c9 hG
      exact x_rv hR hS hP hG dX0_change_24
    · have hG := f_in c9 hG
      refine lv_iload_n hx hb dX0_change_12 rfl (lv_at hl 1 rfl) ?_
      refine lv_iconst (v := 4) hx hb dX0_change_13 (by decide) ?_
      refine lv_icmp_ge (tgt := 24) hx hb dX0_change_14 (by decide) (fun c14 => ?_) (fun c14 => ?_)
      · have hG := f_ip c14 hG
        exact x_rv hR hS hP hG dX0_change_24
      · have hG := f_in c14 hG
        refine lv_aload_n hx hb dX0_change_17 rfl (lv_at hl 0 rfl) ?_
        refine gf_X0_9 F hP hk dX0_change_18 ?_
        refine lv_iload_n hx hb dX0_change_21 rfl (lv_at hl 1 rfl) ?_
        refine lv_iload_n hx hb dX0_change_22 rfl (lv_at hl 2 rfl) ?_
        obtain ⟨h23, hG⟩ := f_gd hG
        have i23 := f_fin h23
        refine x_iast F hS hP (kt_k hk) (kt_l hk) i23 dX0_change_23 (fun H locs hP hS => ?_)
        obtain ⟨σ23, e23⟩ : ∃ t : fS, t = sI σ (k + 1) (a1).toNatClampNeg a2 := ⟨_, rfl⟩
        rw [← e23] at hP
        have hG := f_lt hG e23
        exact x_rv hR hS hP hG dX0_change_24
theorem dX0_copy_0 : decode cX0_copy 0 = .ok (.iconst 0, 1) := by decide +kernel
theorem dX0_copy_1 : decode cX0_copy 1 = .ok (.istore_n 2, 1) := by decide +kernel
theorem dX0_copy_2 : decode cX0_copy 2 = .ok (.iload_n 2, 1) := by decide +kernel
theorem dX0_copy_3 : decode cX0_copy 3 = .ok (.iconst 4, 1) := by decide +kernel
theorem dX0_copy_4 : decode cX0_copy 4 = .ok (.if_icmp .ge 21, 3) := by decide +kernel
theorem dX0_copy_7 : decode cX0_copy 7 = .ok (.aload_n 0, 1) := by decide +kernel
theorem dX0_copy_8 : decode cX0_copy 8 = .ok (.getfield 9, 3) := by decide +kernel
theorem dX0_copy_11 : decode cX0_copy 11 = .ok (.iload_n 2, 1) := by decide +kernel
theorem dX0_copy_12 : decode cX0_copy 12 = .ok (.aload_n 1, 1) := by decide +kernel
theorem dX0_copy_13 : decode cX0_copy 13 = .ok (.getfield 9, 3) := by decide +kernel
theorem dX0_copy_16 : decode cX0_copy 16 = .ok (.iload_n 2, 1) := by decide +kernel
theorem dX0_copy_17 : decode cX0_copy 17 = .ok (.iaload, 1) := by decide +kernel
theorem dX0_copy_18 : decode cX0_copy 18 = .ok (.iastore, 1) := by decide +kernel
theorem dX0_copy_19 : decode cX0_copy 19 = .ok (.iinc 2 1, 3) := by decide +kernel
theorem dX0_copy_22 : decode cX0_copy 22 = .ok (.goto (-20), 3) := by decide +kernel
theorem dX0_copy_25 : decode cX0_copy 25 = .ok (.aload_n 0, 1) := by decide +kernel
theorem dX0_copy_26 : decode cX0_copy 26 = .ok (.aload_n 1, 1) := by decide +kernel
theorem dX0_copy_27 : decode cX0_copy 27 = .ok (.getfield 15, 3) := by decide +kernel
theorem dX0_copy_30 : decode cX0_copy 30 = .ok (.putfield 15, 3) := by decide +kernel
theorem dX0_copy_33 : decode cX0_copy 33 = .ok (.aload_n 0, 1) := by decide +kernel
theorem dX0_copy_34 : decode cX0_copy 34 = .ok (.aload_n 1, 1) := by decide +kernel
theorem dX0_copy_35 : decode cX0_copy 35 = .ok (.getfield 19, 3) := by decide +kernel
theorem dX0_copy_38 : decode cX0_copy 38 = .ok (.putfield 19, 3) := by decide +kernel
theorem dX0_copy_41 : decode cX0_copy 41 = .ok (.aload_n 0, 1) := by decide +kernel
theorem dX0_copy_42 : decode cX0_copy 42 = .ok (.aload_n 1, 1) := by decide +kernel
theorem dX0_copy_43 : decode cX0_copy 43 = .ok (.getfield 22, 3) := by decide +kernel
theorem dX0_copy_46 : decode cX0_copy 46 = .ok (.putfield 22, 3) := by decide +kernel
theorem dX0_copy_49 : decode cX0_copy 49 = .ok (.return_, 1) := by decide +kernel
set_option maxHeartbeats 4000000 in
set_option maxRecDepth 100000 in
theorem c_X0_copy (l : Launch) (E : fEv) (N : Nat) (k : Nat) (k1 : Nat) (hk : kd k = 0) (hk1 : kd k1 = 0) (σ : fS) (τ : fS) (hG : g_X0_copy N k k1 σ = some τ) : fM l E yX0_copy (.code yX0_copy cX0_copy 3 none) rm_X0_copy [.ref (E.2.1 k), .ref (E.2.1 k1)] σ τ none := by
  refine f_openV (by decide) (Nat.le_of_ble_eq_true rfl) ?_
  intro p e s m below meth c args Q F hR hP ls hl
  have hx := F.1.1
  have hb := F.1.2.1
  have hown := F.1.2.2.2.1
  have hts := F.1.2.2.2.2
  have hS : va_S (f_A E) s.heap s.heap [] := va_S.rf
  skip
  have hl : lv_has ls 3 [(0, .ref (E.2.1 k)), (1, .ref (E.2.1 k1))] := hl
  unfold g_X0_copy at hG
  refine lv_iconst (v := 0) hx hb dX0_copy_0 (by decide) ?_
  refine lv_istore_n (lv' := [(2, .int (0 : Int32)), (0, .ref (E.2.1 k)), (1, .ref (E.2.1 k1))]) hx hb dX0_copy_1 rfl hl (by decide) rfl (fun ls hl => ?_)
  obtain ⟨σl2, hT2, hG⟩ := f_bv hG
  have T2 : ∀ (H : Heap) (locs : List Loc) (ls : Array Slot), f_h E σl2 H → va_S (f_A E) s.heap H locs → lv_has ls 3 [(0, .ref (E.2.1 k)), (1, .ref (E.2.1 k1))] → W p l e rm_X0_copy s m args below meth c H locs 0 0 Q (F0 m 25 ls []) := by
    intro H locs ls hP hS hl
    refine lv_aload_n hx hb dX0_copy_25 rfl (lv_at hl 0 rfl) ?_
    refine lv_aload_n hx hb dX0_copy_26 rfl (lv_at hl 1 rfl) ?_
    refine gf_X0_15 F hP hk1 dX0_copy_27 ?_
    refine pf_X0_15 F hS hP hk dX0_copy_30 (fun H locs hP hS => ?_)
    obtain ⟨σ30, e30⟩ : ∃ t : fS, t = sI σl2 k 1 (σl2.1 k1 1) := ⟨_, rfl⟩
    rw [← e30] at hP
    have hG := f_lt hG e30
    refine lv_aload_n hx hb dX0_copy_33 rfl (lv_at hl 0 rfl) ?_
    refine lv_aload_n hx hb dX0_copy_34 rfl (lv_at hl 1 rfl) ?_
    refine gf_X0_19 F hP hk1 dX0_copy_35 ?_
    refine pf_X0_19 F hS hP hk dX0_copy_38 (fun H locs hP hS => ?_)
    obtain ⟨σ38, e38⟩ : ∃ t : fS, t = sI σ30 k 2 (σ30.1 k1 2) := ⟨_, rfl⟩
    rw [← e38] at hP
    have hG := f_lt hG e38
    refine lv_aload_n hx hb dX0_copy_41 rfl (lv_at hl 0 rfl) ?_
    refine lv_aload_n hx hb dX0_copy_42 rfl (lv_at hl 1 rfl) ?_
    refine gf_X0_22 F hP hk1 dX0_copy_43 ?_
    refine pf_X0_22 F hS hP hk dX0_copy_46 (fun H locs hP hS => ?_)
    obtain ⟨σ46, e46⟩ : ∃ t : fS, t = sI σ38 k 3 (σ38.1 k1 3) := ⟨_, rfl⟩
    rw [← e46] at hP
    have hG := f_lt hG e46
    exact x_rv hR hS hP hG dX0_copy_49
  have L2 : ∀ (n2 : Nat) (x2_2 : Int32) (σh2 : fS) (H : Heap) (locs : List Loc) (ls : Array Slot), f_h E σh2 H → va_S (f_A E) s.heap H locs → lv_has ls 3 [(0, .ref (E.2.1 k)), (1, .ref (E.2.1 k1)), (2, .int x2_2)] → lp_X0_copy_2 N k k1 n2 x2_2 σh2 = some σl2 → W p l e rm_X0_copy s m args below meth c H locs 0 0 Q (F0 m 2 ls []) := by
    intro n2
    induction n2 with
    | zero =>
      intro x2_2 σh2 H locs ls hP hS hl hG
      rw [lp_X0_copy_2] at hG
      cases hG
    | succ n2 ih2 =>
      intro x2_2 σh2 H locs ls hP hS hl hG
      rw [lp_X0_copy_2] at hG
      refine lv_iload_n hx hb dX0_copy_2 rfl (lv_at hl 2 rfl) ?_
      refine lv_iconst (v := 4) hx hb dX0_copy_3 (by decide) ?_
      refine lv_icmp_ge (tgt := 25) hx hb dX0_copy_4 (by decide) (fun c4 => ?_) (fun c4 => ?_)
      · have hG := f_ip c4 hG
        cases hG
        exact T2 _ _ _ hP hS (lv_sub hl [0, 1] rfl)
      · have hG := f_in c4 hG
        refine lv_aload_n hx hb dX0_copy_7 rfl (lv_at hl 0 rfl) ?_
        refine gf_X0_9 F hP hk dX0_copy_8 ?_
        refine lv_iload_n hx hb dX0_copy_11 rfl (lv_at hl 2 rfl) ?_
        refine lv_aload_n hx hb dX0_copy_12 rfl (lv_at hl 1 rfl) ?_
        refine gf_X0_9 F hP hk1 dX0_copy_13 ?_
        refine lv_iload_n hx hb dX0_copy_16 rfl (lv_at hl 2 rfl) ?_
        obtain ⟨h17, hG⟩ := f_gd hG
        have i17 := f_fin h17
        refine x_iald F hP (kt_k hk1) (kt_l hk1) i17 dX0_copy_17 ?_
        obtain ⟨h18, hG⟩ := f_gd hG
        have i18 := f_fin h18
        refine x_iast F hS hP (kt_k hk) (kt_l hk) i18 dX0_copy_18 (fun H locs hP hS => ?_)
        obtain ⟨σ18, e18⟩ : ∃ t : fS, t = sI σh2 (k + 1) (x2_2).toNatClampNeg (σh2.1 (k1 + 1) (x2_2).toNatClampNeg) := ⟨_, rfl⟩
        rw [← e18] at hP
        have hG := f_lt hG e18
        refine lv_iinc (v := (x2_2 + (1 : Int32))) (lv' := [(2, .int (x2_2 + (1 : Int32))), (0, .ref (E.2.1 k)), (1, .ref (E.2.1 k1))]) hx hb dX0_copy_19 hl (k := 2) rfl (by rfl) (by decide) rfl (fun ls hl => ?_)
        refine lv_goto (tgt := 2) hx hb dX0_copy_22 (by decide) ?_
        exact ih2 (x2_2 + (1 : Int32)) σ18 _ _ _ hP hS (lv_sub hl [1, 2, 0] rfl) hG
  exact L2 N (0 : Int32) σ _ _ _ hP hS (lv_sub hl [1, 2, 0] rfl) hT2
theorem dX6_start_0 : decode cX6_start 0 = .ok (.aload_n 0, 1) := by decide +kernel
theorem dX6_start_1 : decode cX6_start 1 = .ok (.iconst 0, 1) := by decide +kernel
theorem dX6_start_2 : decode cX6_start 2 = .ok (.putfield 15, 3) := by decide +kernel
theorem dX6_start_5 : decode cX6_start 5 = .ok (.return_, 1) := by decide +kernel
set_option maxHeartbeats 4000000 in
set_option maxRecDepth 100000 in
theorem c_X6_start (l : Launch) (E : fEv) (N : Nat)  (σ : fS) (τ : fS) (hG : g_X6_start N  σ = some τ) : fM l E yX6_start (.code yX6_start cX6_start 1 none) rm_X6_start [.ref (E.2.1 16)] σ τ none := by
  refine f_openV (by decide) (Nat.le_of_ble_eq_true rfl) ?_
  intro p e s m below meth c args Q F hR hP ls hl
  have hx := F.1.1
  have hb := F.1.2.1
  have hown := F.1.2.2.2.1
  have hts := F.1.2.2.2.2
  have hS : va_S (f_A E) s.heap s.heap [] := va_S.rf
  skip
  have hl : lv_has ls 1 [(0, .ref (E.2.1 16))] := hl
  unfold g_X6_start at hG
  refine lv_aload_n hx hb dX6_start_0 rfl (lv_at hl 0 rfl) ?_
  refine lv_iconst (v := 0) hx hb dX6_start_1 (by decide) ?_
  refine pf_X6_15 F hS hP dX6_start_2 (fun H locs hP hS => ?_)
  obtain ⟨σ2, e2⟩ : ∃ t : fS, t = sI σ 16 1 (0 : Int32) := ⟨_, rfl⟩
  rw [← e2] at hP
  have hG := f_lt hG e2
  exact x_rv hR hS hP hG dX6_start_5
theorem dX2_coreOf_0 : decode cX2_coreOf 0 = .ok (.iconst 1, 1) := by decide +kernel
theorem dX2_coreOf_1 : decode cX2_coreOf 1 = .ok (.istore_n 1, 1) := by decide +kernel
theorem dX2_coreOf_2 : decode cX2_coreOf 2 = .ok (.iconst 0, 1) := by decide +kernel
theorem dX2_coreOf_3 : decode cX2_coreOf 3 = .ok (.istore_n 2, 1) := by decide +kernel
theorem dX2_coreOf_4 : decode cX2_coreOf 4 = .ok (.iload_n 2, 1) := by decide +kernel
theorem dX2_coreOf_5 : decode cX2_coreOf 5 = .ok (.getstatic 9, 3) := by decide +kernel
theorem dX2_coreOf_8 : decode cX2_coreOf 8 = .ok (.arraylength, 1) := by decide +kernel
theorem dX2_coreOf_9 : decode cX2_coreOf 9 = .ok (.if_icmp .ge 26, 3) := by decide +kernel
theorem dX2_coreOf_12 : decode cX2_coreOf 12 = .ok (.iload_n 0, 1) := by decide +kernel
theorem dX2_coreOf_13 : decode cX2_coreOf 13 = .ok (.iload_n 2, 1) := by decide +kernel
theorem dX2_coreOf_14 : decode cX2_coreOf 14 = .ok (.ishr, 1) := by decide +kernel
theorem dX2_coreOf_15 : decode cX2_coreOf 15 = .ok (.iconst 1, 1) := by decide +kernel
theorem dX2_coreOf_16 : decode cX2_coreOf 16 = .ok (.iand, 1) := by decide +kernel
theorem dX2_coreOf_17 : decode cX2_coreOf 17 = .ok (.iconst 1, 1) := by decide +kernel
theorem dX2_coreOf_18 : decode cX2_coreOf 18 = .ok (.if_icmp .ne 11, 3) := by decide +kernel
theorem dX2_coreOf_21 : decode cX2_coreOf 21 = .ok (.iload_n 1, 1) := by decide +kernel
theorem dX2_coreOf_22 : decode cX2_coreOf 22 = .ok (.getstatic 9, 3) := by decide +kernel
theorem dX2_coreOf_25 : decode cX2_coreOf 25 = .ok (.iload_n 2, 1) := by decide +kernel
theorem dX2_coreOf_26 : decode cX2_coreOf 26 = .ok (.iaload, 1) := by decide +kernel
theorem dX2_coreOf_27 : decode cX2_coreOf 27 = .ok (.imul, 1) := by decide +kernel
theorem dX2_coreOf_28 : decode cX2_coreOf 28 = .ok (.istore_n 1, 1) := by decide +kernel
theorem dX2_coreOf_29 : decode cX2_coreOf 29 = .ok (.iinc 2 1, 3) := by decide +kernel
theorem dX2_coreOf_32 : decode cX2_coreOf 32 = .ok (.goto (-28), 3) := by decide +kernel
theorem dX2_coreOf_35 : decode cX2_coreOf 35 = .ok (.iload_n 1, 1) := by decide +kernel
theorem dX2_coreOf_36 : decode cX2_coreOf 36 = .ok (.ireturn, 1) := by decide +kernel
set_option maxHeartbeats 4000000 in
set_option maxRecDepth 100000 in
theorem c_X2_coreOf (l : Launch) (E : fEv) (N : Nat) (a0 : Int32) (σ : fS) (r : Int32) (τ : fS) (hG : g_X2_coreOf N a0 σ = some (r, τ)) : fM l E yX2_coreOf (.code yX2_coreOf cX2_coreOf 3 (some .int)) rm_X2_coreOf [.int a0] σ τ (some (.int r)) := by
  refine f_openI (by decide) (Nat.le_of_ble_eq_true rfl) ?_
  intro p e s m below meth c args Q F hR hP ls hl
  have hx := F.1.1
  have hb := F.1.2.1
  have hown := F.1.2.2.2.1
  have hts := F.1.2.2.2.2
  have hS : va_S (f_A E) s.heap s.heap [] := va_S.rf
  skip
  have hl : lv_has ls 3 [(0, .int a0)] := hl
  unfold g_X2_coreOf at hG
  refine lv_iconst (v := 1) hx hb dX2_coreOf_0 (by decide) ?_
  refine lv_istore_n (lv' := [(1, .int (1 : Int32)), (0, .int a0)]) hx hb dX2_coreOf_1 rfl hl (by decide) rfl (fun ls hl => ?_)
  refine lv_iconst (v := 0) hx hb dX2_coreOf_2 (by decide) ?_
  refine lv_istore_n (lv' := [(2, .int (0 : Int32)), (1, .int (1 : Int32)), (0, .int a0)]) hx hb dX2_coreOf_3 rfl hl (by decide) rfl (fun ls hl => ?_)
  obtain ⟨o4, σl4, hT4, hG⟩ := f_bd hG
  have T4 : ∀ (H : Heap) (locs : List Loc) (ls : Array Slot), f_h E σl4 H → va_S (f_A E) s.heap H locs → lv_has ls 3 [(1, .int o4)] → W p l e rm_X2_coreOf s m args below meth c H locs 0 0 Q (F0 m 35 ls []) := by
    intro H locs ls hP hS hl
    refine lv_iload_n hx hb dX2_coreOf_35 rfl (lv_at hl 0 rfl) ?_
    exact x_ri hR hS hP hG dX2_coreOf_36
  have L4 : ∀ (n4 : Nat) (x4_1 : Int32) (x4_2 : Int32) (σh4 : fS) (H : Heap) (locs : List Loc) (ls : Array Slot), f_h E σh4 H → va_S (f_A E) s.heap H locs → lv_has ls 3 [(0, .int a0), (1, .int x4_1), (2, .int x4_2)] → lp_X2_coreOf_4 N a0 n4 x4_1 x4_2 σh4 = some (o4, σl4) → W p l e rm_X2_coreOf s m args below meth c H locs 0 0 Q (F0 m 4 ls []) := by
    intro n4
    induction n4 with
    | zero =>
      intro x4_1 x4_2 σh4 H locs ls hP hS hl hG
      rw [lp_X2_coreOf_4] at hG
      cases hG
    | succ n4 ih4 =>
      intro x4_1 x4_2 σh4 H locs ls hP hS hl hG
      rw [lp_X2_coreOf_4] at hG
      refine lv_iload_n hx hb dX2_coreOf_4 rfl (lv_at hl 2 rfl) ?_
      refine x_gnB2 F hS dX2_coreOf_5 ?_
      refine x_slB F hS dX2_coreOf_8 ?_
      refine lv_icmp_ge (tgt := 35) hx hb dX2_coreOf_9 (by decide) (fun c9 => ?_) (fun c9 => ?_)
      · have hG := f_ip c9 hG
        cases hG
        exact T4 _ _ _ hP hS (lv_sub hl [1] rfl)
      · have hG := f_in c9 hG
        refine lv_iload_n hx hb dX2_coreOf_12 rfl (lv_at hl 0 rfl) ?_
        refine lv_iload_n hx hb dX2_coreOf_13 rfl (lv_at hl 2 rfl) ?_
        refine lv_ishr hx hb dX2_coreOf_14 ?_
        refine lv_iconst (v := 1) hx hb dX2_coreOf_15 (by decide) ?_
        refine lv_iand hx hb dX2_coreOf_16 ?_
        refine lv_iconst (v := 1) hx hb dX2_coreOf_17 (by decide) ?_
        refine lv_icmp_ne (tgt := 29) hx hb dX2_coreOf_18 (by decide) (fun c18 => ?_) (fun c18 => ?_)
        · have hG := f_in c18 hG
          refine lv_iinc (v := (x4_2 + (1 : Int32))) (lv' := [(2, .int (x4_2 + (1 : Int32))), (0, .int a0), (1, .int x4_1)]) hx hb dX2_coreOf_29 hl (k := 2) rfl (by rfl) (by decide) rfl (fun ls hl => ?_)
          refine lv_goto (tgt := 4) hx hb dX2_coreOf_32 (by decide) ?_
          exact ih4 x4_1 (x4_2 + (1 : Int32)) σh4 _ _ _ hP hS (lv_sub hl [1, 2, 0] rfl) hG
        · have hG := f_ip c18 hG
          refine lv_iload_n hx hb dX2_coreOf_21 rfl (lv_at hl 1 rfl) ?_
          refine x_gnB2 F hS dX2_coreOf_22 ?_
          refine lv_iload_n hx hb dX2_coreOf_25 rfl (lv_at hl 2 rfl) ?_
          obtain ⟨h26, hG⟩ := f_gd hG
          have i26 := f_fin h26
          refine x_sdB F hS i26 dX2_coreOf_26 ?_
          refine lv_imul hx hb dX2_coreOf_27 ?_
          refine lv_topi (fun v28 e28 => ?_)
          have hG := f_lt hG e28
          refine lv_istore_n (lv' := [(1, .int v28), (0, .int a0), (2, .int x4_2)]) hx hb dX2_coreOf_28 rfl hl (by decide) rfl (fun ls hl => ?_)
          refine lv_iinc (v := (x4_2 + (1 : Int32))) (lv' := [(2, .int (x4_2 + (1 : Int32))), (1, .int v28), (0, .int a0)]) hx hb dX2_coreOf_29 hl (k := 2) rfl (by rfl) (by decide) rfl (fun ls hl => ?_)
          refine lv_goto (tgt := 4) hx hb dX2_coreOf_32 (by decide) ?_
          exact ih4 v28 (x4_2 + (1 : Int32)) σh4 _ _ _ hP hS (lv_sub hl [2, 1, 0] rfl) hG
  exact L4 N (1 : Int32) (0 : Int32) σ _ _ _ hP hS (lv_sub hl [2, 1, 0] rfl) hT4
theorem dX6_add_0 : decode cX6_add 0 = .ok (.aload_n 0, 1) := by decide +kernel
theorem dX6_add_1 : decode cX6_add 1 = .ok (.getfield 15, 3) := by decide +kernel
theorem dX6_add_4 : decode cX6_add 4 = .ok (.ifCond .lt 34, 3) := by decide +kernel
theorem dX6_add_7 : decode cX6_add 7 = .ok (.aload_n 0, 1) := by decide +kernel
theorem dX6_add_8 : decode cX6_add 8 = .ok (.getfield 15, 3) := by decide +kernel
theorem dX6_add_11 : decode cX6_add 11 = .ok (.iconst 5, 1) := by decide +kernel
theorem dX6_add_12 : decode cX6_add 12 = .ok (.if_icmp .ge 26, 3) := by decide +kernel
theorem dX6_add_15 : decode cX6_add 15 = .ok (.aload_n 0, 1) := by decide +kernel
theorem dX6_add_16 : decode cX6_add 16 = .ok (.getfield 11, 3) := by decide +kernel
theorem dX6_add_19 : decode cX6_add 19 = .ok (.aload_n 0, 1) := by decide +kernel
theorem dX6_add_20 : decode cX6_add 20 = .ok (.getfield 15, 3) := by decide +kernel
theorem dX6_add_23 : decode cX6_add 23 = .ok (.iload_n 1, 1) := by decide +kernel
theorem dX6_add_24 : decode cX6_add 24 = .ok (.invokestatic 19, 3) := by decide +kernel
theorem dX6_add_27 : decode cX6_add 27 = .ok (.iastore, 1) := by decide +kernel
theorem dX6_add_28 : decode cX6_add 28 = .ok (.aload_n 0, 1) := by decide +kernel
theorem dX6_add_29 : decode cX6_add 29 = .ok (.dup, 1) := by decide +kernel
theorem dX6_add_30 : decode cX6_add 30 = .ok (.getfield 15, 3) := by decide +kernel
theorem dX6_add_33 : decode cX6_add 33 = .ok (.iconst 1, 1) := by decide +kernel
theorem dX6_add_34 : decode cX6_add 34 = .ok (.iadd, 1) := by decide +kernel
theorem dX6_add_35 : decode cX6_add 35 = .ok (.putfield 15, 3) := by decide +kernel
theorem dX6_add_38 : decode cX6_add 38 = .ok (.return_, 1) := by decide +kernel
set_option maxHeartbeats 4000000 in
set_option maxRecDepth 100000 in
theorem c_X6_add (l : Launch) (E : fEv) (N : Nat) (a1 : Int32) (σ : fS) (τ : fS) (hG : g_X6_add N a1 σ = some τ) : fM l E yX6_add (.code yX6_add cX6_add 2 none) rm_X6_add [.ref (E.2.1 16), .int a1] σ τ none := by
  refine f_openV (by decide) (Nat.le_of_ble_eq_true rfl) ?_
  intro p e s m below meth c args Q F hR hP ls hl
  have hx := F.1.1
  have hb := F.1.2.1
  have hown := F.1.2.2.2.1
  have hts := F.1.2.2.2.2
  have hS : va_S (f_A E) s.heap s.heap [] := va_S.rf
  skip
  have hl : lv_has ls 2 [(0, .ref (E.2.1 16)), (1, .int a1)] := hl
  unfold g_X6_add at hG
  refine lv_aload_n hx hb dX6_add_0 rfl (lv_at hl 0 rfl) ?_
  refine gf_X6_15 F hP dX6_add_1 ?_
  refine lv_if_lt (tgt := 38) hx hb dX6_add_4 (by decide) (fun c4 => ?_) (fun c4 => ?_)
  · have hG := f_ip c4 hG
    exact x_rv hR hS hP hG dX6_add_38
  · have hG := f_in c4 hG
    refine lv_aload_n hx hb dX6_add_7 rfl (lv_at hl 0 rfl) ?_
    refine gf_X6_15 F hP dX6_add_8 ?_
    refine lv_iconst (v := 5) hx hb dX6_add_11 (by decide) ?_
    refine lv_icmp_ge (tgt := 38) hx hb dX6_add_12 (by decide) (fun c12 => ?_) (fun c12 => ?_)
    · have hG := f_ip c12 hG
      exact x_rv hR hS hP hG dX6_add_38
    · have hG := f_in c12 hG
      refine lv_aload_n hx hb dX6_add_15 rfl (lv_at hl 0 rfl) ?_
      refine gf_X6_11 F hP dX6_add_16 ?_
      refine lv_aload_n hx hb dX6_add_19 rfl (lv_at hl 0 rfl) ?_
      refine gf_X6_15 F hP dX6_add_20 ?_
      refine lv_iload_n hx hb dX6_add_23 rfl (lv_at hl 1 rfl) ?_
      obtain ⟨r24, σ24, hC24, hG⟩ := f_bd hG
      refine iv_X6_19 F hS hP (c_X2_coreOf l E N a1 σ _ _ hC24) ⟨Nat.le_of_ble_eq_true rfl, Nat.le_of_ble_eq_true rfl⟩ hl.1 (Nat.le_of_ble_eq_true rfl) dX6_add_24 ⟨Nat.zero_le _, Nat.zero_le _⟩ (fun H locs hP hS => ?_)
      obtain ⟨h27, hG⟩ := f_gd hG
      have i27 := f_fin h27
      refine x_iast F hS hP rfl rfl i27 dX6_add_27 (fun H locs hP hS => ?_)
      obtain ⟨σ27, e27⟩ : ∃ t : fS, t = sI σ24 17 ((σ.1 16 1)).toNatClampNeg r24 := ⟨_, rfl⟩
      rw [← e27] at hP
      have hG := f_lt hG e27
      refine lv_aload_n hx hb dX6_add_28 rfl (lv_at hl 0 rfl) ?_
      refine lv_dup hx hb dX6_add_29 rfl ?_
      refine gf_X6_15 F hP dX6_add_30 ?_
      refine lv_iconst (v := 1) hx hb dX6_add_33 (by decide) ?_
      refine lv_iadd hx hb dX6_add_34 ?_
      refine pf_X6_15 F hS hP dX6_add_35 (fun H locs hP hS => ?_)
      obtain ⟨σ35, e35⟩ : ∃ t : fS, t = sI σ27 16 1 ((σ27.1 16 1) + (1 : Int32)) := ⟨_, rfl⟩
      rw [← e35] at hP
      have hG := f_lt hG e35
      exact x_rv hR hS hP hG dX6_add_38
theorem dX6_vanishesAtReal_0 : decode cX6_vanishesAtReal 0 = .ok (.iconst 0, 1) := by decide +kernel
theorem dX6_vanishesAtReal_1 : decode cX6_vanishesAtReal 1 = .ok (.istore_n 1, 1) := by decide +kernel
theorem dX6_vanishesAtReal_2 : decode cX6_vanishesAtReal 2 = .ok (.iconst 0, 1) := by decide +kernel
theorem dX6_vanishesAtReal_3 : decode cX6_vanishesAtReal 3 = .ok (.istore_n 2, 1) := by decide +kernel
theorem dX6_vanishesAtReal_4 : decode cX6_vanishesAtReal 4 = .ok (.iconst 0, 1) := by decide +kernel
theorem dX6_vanishesAtReal_5 : decode cX6_vanishesAtReal 5 = .ok (.istore_n 3, 1) := by decide +kernel
theorem dX6_vanishesAtReal_6 : decode cX6_vanishesAtReal 6 = .ok (.iload_n 3, 1) := by decide +kernel
theorem dX6_vanishesAtReal_7 : decode cX6_vanishesAtReal 7 = .ok (.aload_n 0, 1) := by decide +kernel
theorem dX6_vanishesAtReal_8 : decode cX6_vanishesAtReal 8 = .ok (.getfield 15, 3) := by decide +kernel
theorem dX6_vanishesAtReal_11 : decode cX6_vanishesAtReal 11 = .ok (.if_icmp .ge 48, 3) := by decide +kernel
theorem dX6_vanishesAtReal_14 : decode cX6_vanishesAtReal 14 = .ok (.iload_n 3, 1) := by decide +kernel
theorem dX6_vanishesAtReal_15 : decode cX6_vanishesAtReal 15 = .ok (.iconst 5, 1) := by decide +kernel
theorem dX6_vanishesAtReal_16 : decode cX6_vanishesAtReal 16 = .ok (.if_icmp .ge 43, 3) := by decide +kernel
theorem dX6_vanishesAtReal_19 : decode cX6_vanishesAtReal 19 = .ok (.iload_n 1, 1) := by decide +kernel
theorem dX6_vanishesAtReal_20 : decode cX6_vanishesAtReal 20 = .ok (.aload_n 0, 1) := by decide +kernel
theorem dX6_vanishesAtReal_21 : decode cX6_vanishesAtReal 21 = .ok (.getfield 11, 3) := by decide +kernel
theorem dX6_vanishesAtReal_24 : decode cX6_vanishesAtReal 24 = .ok (.iload_n 3, 1) := by decide +kernel
theorem dX6_vanishesAtReal_25 : decode cX6_vanishesAtReal 25 = .ok (.iaload, 1) := by decide +kernel
theorem dX6_vanishesAtReal_26 : decode cX6_vanishesAtReal 26 = .ok (.ifCond .le 7, 3) := by decide +kernel
theorem dX6_vanishesAtReal_29 : decode cX6_vanishesAtReal 29 = .ok (.iconst 1, 1) := by decide +kernel
theorem dX6_vanishesAtReal_30 : decode cX6_vanishesAtReal 30 = .ok (.goto 4, 3) := by decide +kernel
theorem dX6_vanishesAtReal_33 : decode cX6_vanishesAtReal 33 = .ok (.iconst 0, 1) := by decide +kernel
theorem dX6_vanishesAtReal_34 : decode cX6_vanishesAtReal 34 = .ok (.ior, 1) := by decide +kernel
theorem dX6_vanishesAtReal_35 : decode cX6_vanishesAtReal 35 = .ok (.istore_n 1, 1) := by decide +kernel
theorem dX6_vanishesAtReal_36 : decode cX6_vanishesAtReal 36 = .ok (.iload_n 2, 1) := by decide +kernel
theorem dX6_vanishesAtReal_37 : decode cX6_vanishesAtReal 37 = .ok (.aload_n 0, 1) := by decide +kernel
theorem dX6_vanishesAtReal_38 : decode cX6_vanishesAtReal 38 = .ok (.getfield 11, 3) := by decide +kernel
theorem dX6_vanishesAtReal_41 : decode cX6_vanishesAtReal 41 = .ok (.iload_n 3, 1) := by decide +kernel
theorem dX6_vanishesAtReal_42 : decode cX6_vanishesAtReal 42 = .ok (.iaload, 1) := by decide +kernel
theorem dX6_vanishesAtReal_43 : decode cX6_vanishesAtReal 43 = .ok (.ifCond .ge 7, 3) := by decide +kernel
theorem dX6_vanishesAtReal_46 : decode cX6_vanishesAtReal 46 = .ok (.iconst 1, 1) := by decide +kernel
theorem dX6_vanishesAtReal_47 : decode cX6_vanishesAtReal 47 = .ok (.goto 4, 3) := by decide +kernel
theorem dX6_vanishesAtReal_50 : decode cX6_vanishesAtReal 50 = .ok (.iconst 0, 1) := by decide +kernel
theorem dX6_vanishesAtReal_51 : decode cX6_vanishesAtReal 51 = .ok (.ior, 1) := by decide +kernel
theorem dX6_vanishesAtReal_52 : decode cX6_vanishesAtReal 52 = .ok (.istore_n 2, 1) := by decide +kernel
theorem dX6_vanishesAtReal_53 : decode cX6_vanishesAtReal 53 = .ok (.iinc 3 1, 3) := by decide +kernel
theorem dX6_vanishesAtReal_56 : decode cX6_vanishesAtReal 56 = .ok (.goto (-50), 3) := by decide +kernel
theorem dX6_vanishesAtReal_59 : decode cX6_vanishesAtReal 59 = .ok (.iload_n 1, 1) := by decide +kernel
theorem dX6_vanishesAtReal_60 : decode cX6_vanishesAtReal 60 = .ok (.ifCond .eq 11, 3) := by decide +kernel
theorem dX6_vanishesAtReal_63 : decode cX6_vanishesAtReal 63 = .ok (.iload_n 2, 1) := by decide +kernel
theorem dX6_vanishesAtReal_64 : decode cX6_vanishesAtReal 64 = .ok (.ifCond .eq 7, 3) := by decide +kernel
theorem dX6_vanishesAtReal_67 : decode cX6_vanishesAtReal 67 = .ok (.iconst 1, 1) := by decide +kernel
theorem dX6_vanishesAtReal_68 : decode cX6_vanishesAtReal 68 = .ok (.goto 4, 3) := by decide +kernel
theorem dX6_vanishesAtReal_71 : decode cX6_vanishesAtReal 71 = .ok (.iconst 0, 1) := by decide +kernel
theorem dX6_vanishesAtReal_72 : decode cX6_vanishesAtReal 72 = .ok (.ireturn, 1) := by decide +kernel
set_option maxHeartbeats 4000000 in
set_option maxRecDepth 100000 in
theorem c_X6_vanishesAtReal (l : Launch) (E : fEv) (N : Nat)  (σ : fS) (r : Int32) (τ : fS) (hG : g_X6_vanishesAtReal N  σ = some (r, τ)) : fM l E yX6_vanishesAtReal (.code yX6_vanishesAtReal cX6_vanishesAtReal 4 (some .boolean)) rm_X6_vanishesAtReal [.ref (E.2.1 16)] σ τ (some (.int r)) := by
  refine f_openZ (by decide) (Nat.le_of_ble_eq_true rfl) ?_
  intro p e s m below meth c args Q F hR hP ls hl
  have hx := F.1.1
  have hb := F.1.2.1
  have hown := F.1.2.2.2.1
  have hts := F.1.2.2.2.2
  have hS : va_S (f_A E) s.heap s.heap [] := va_S.rf
  skip
  have hl : lv_has ls 4 [(0, .ref (E.2.1 16))] := hl
  unfold g_X6_vanishesAtReal at hG
  refine lv_iconst (v := 0) hx hb dX6_vanishesAtReal_0 (by decide) ?_
  refine lv_istore_n (lv' := [(1, .int (0 : Int32)), (0, .ref (E.2.1 16))]) hx hb dX6_vanishesAtReal_1 rfl hl (by decide) rfl (fun ls hl => ?_)
  refine lv_iconst (v := 0) hx hb dX6_vanishesAtReal_2 (by decide) ?_
  refine lv_istore_n (lv' := [(2, .int (0 : Int32)), (1, .int (0 : Int32)), (0, .ref (E.2.1 16))]) hx hb dX6_vanishesAtReal_3 rfl hl (by decide) rfl (fun ls hl => ?_)
  refine lv_iconst (v := 0) hx hb dX6_vanishesAtReal_4 (by decide) ?_
  refine lv_istore_n (lv' := [(3, .int (0 : Int32)), (2, .int (0 : Int32)), (1, .int (0 : Int32)), (0, .ref (E.2.1 16))]) hx hb dX6_vanishesAtReal_5 rfl hl (by decide) rfl (fun ls hl => ?_)
  obtain ⟨o6, σl6, hT6, hG⟩ := f_bd hG
  have T6 : ∀ (H : Heap) (locs : List Loc) (ls : Array Slot), f_h E σl6 H → va_S (f_A E) s.heap H locs → lv_has ls 4 [(1, .int o6.1), (2, .int o6.2)] → W p l e rm_X6_vanishesAtReal s m args below meth c H locs 0 0 Q (F0 m 59 ls []) := by
    intro H locs ls hP hS hl
    refine lv_iload_n hx hb dX6_vanishesAtReal_59 rfl (lv_at hl 0 rfl) ?_
    refine lv_if_eq (tgt := 71) hx hb dX6_vanishesAtReal_60 (by decide) (fun c60 => ?_) (fun c60 => ?_)
    · have hG := f_ip c60 hG
      refine lv_iconst (v := 0) hx hb dX6_vanishesAtReal_71 (by decide) ?_
      exact x_rz hR hS hP (Or.inl rfl) hG dX6_vanishesAtReal_72
    · have hG := f_in c60 hG
      refine lv_iload_n hx hb dX6_vanishesAtReal_63 rfl (lv_at hl 1 rfl) ?_
      refine lv_if_eq (tgt := 71) hx hb dX6_vanishesAtReal_64 (by decide) (fun c64 => ?_) (fun c64 => ?_)
      · have hG := f_ip c64 hG
        refine lv_iconst (v := 0) hx hb dX6_vanishesAtReal_71 (by decide) ?_
        exact x_rz hR hS hP (Or.inl rfl) hG dX6_vanishesAtReal_72
      · have hG := f_in c64 hG
        refine lv_iconst (v := 1) hx hb dX6_vanishesAtReal_67 (by decide) ?_
        refine lv_goto (tgt := 72) hx hb dX6_vanishesAtReal_68 (by decide) ?_
        exact x_rz hR hS hP (Or.inr rfl) hG dX6_vanishesAtReal_72
  have L6 : ∀ (n6 : Nat) (x6_1 : Int32) (x6_2 : Int32) (x6_3 : Int32) (σh6 : fS) (H : Heap) (locs : List Loc) (ls : Array Slot), f_h E σh6 H → va_S (f_A E) s.heap H locs → lv_has ls 4 [(0, .ref (E.2.1 16)), (1, .int x6_1), (2, .int x6_2), (3, .int x6_3)] → lp_X6_vanishesAtReal_6 N n6 x6_1 x6_2 x6_3 σh6 = some (o6, σl6) → W p l e rm_X6_vanishesAtReal s m args below meth c H locs 0 0 Q (F0 m 6 ls []) := by
    intro n6
    induction n6 with
    | zero =>
      intro x6_1 x6_2 x6_3 σh6 H locs ls hP hS hl hG
      rw [lp_X6_vanishesAtReal_6] at hG
      cases hG
    | succ n6 ih6 =>
      intro x6_1 x6_2 x6_3 σh6 H locs ls hP hS hl hG
      rw [lp_X6_vanishesAtReal_6] at hG
      refine lv_iload_n hx hb dX6_vanishesAtReal_6 rfl (lv_at hl 3 rfl) ?_
      refine lv_aload_n hx hb dX6_vanishesAtReal_7 rfl (lv_at hl 0 rfl) ?_
      refine gf_X6_15 F hP dX6_vanishesAtReal_8 ?_
      refine lv_icmp_ge (tgt := 59) hx hb dX6_vanishesAtReal_11 (by decide) (fun c11 => ?_) (fun c11 => ?_)
      · have hG := f_ip c11 hG
        cases hG
        exact T6 _ _ _ hP hS (lv_sub hl [1, 2] rfl)
      · have hG := f_in c11 hG
        refine lv_iload_n hx hb dX6_vanishesAtReal_14 rfl (lv_at hl 3 rfl) ?_
        refine lv_iconst (v := 5) hx hb dX6_vanishesAtReal_15 (by decide) ?_
        refine lv_icmp_ge (tgt := 59) hx hb dX6_vanishesAtReal_16 (by decide) (fun c16 => ?_) (fun c16 => ?_)
        · have hG := f_ip c16 hG
          cases hG
          exact T6 _ _ _ hP hS (lv_sub hl [1, 2] rfl)
        · have hG := f_in c16 hG
          refine lv_iload_n hx hb dX6_vanishesAtReal_19 rfl (lv_at hl 1 rfl) ?_
          refine lv_aload_n hx hb dX6_vanishesAtReal_20 rfl (lv_at hl 0 rfl) ?_
          refine gf_X6_11 F hP dX6_vanishesAtReal_21 ?_
          refine lv_iload_n hx hb dX6_vanishesAtReal_24 rfl (lv_at hl 3 rfl) ?_
          obtain ⟨h25, hG⟩ := f_gd hG
          have i25 := f_fin h25
          refine x_iald F hP rfl rfl i25 dX6_vanishesAtReal_25 ?_
          obtain ⟨o26, σj26, hT26, hG⟩ := f_bd hG
          have T26 : ∀ (H : Heap) (locs : List Loc) (ls : Array Slot), f_h E σj26 H → va_S (f_A E) s.heap H locs → lv_has ls 4 [(0, .ref (E.2.1 16)), (2, .int x6_2), (3, .int x6_3)] → W p l e rm_X6_vanishesAtReal s m args below meth c H locs 0 0 Q (F0 m 34 ls [.int o26, .int x6_1]) := by
            intro H locs ls hP hS hl
            refine lv_ior hx hb dX6_vanishesAtReal_34 ?_
            refine lv_topi (fun v35 e35 => ?_)
            have hG := f_lt hG e35
            refine lv_istore_n (lv' := [(1, .int v35), (0, .ref (E.2.1 16)), (2, .int x6_2), (3, .int x6_3)]) hx hb dX6_vanishesAtReal_35 rfl hl (by decide) rfl (fun ls hl => ?_)
            refine lv_iload_n hx hb dX6_vanishesAtReal_36 rfl (lv_at hl 2 rfl) ?_
            refine lv_aload_n hx hb dX6_vanishesAtReal_37 rfl (lv_at hl 1 rfl) ?_
            refine gf_X6_11 F hP dX6_vanishesAtReal_38 ?_
            refine lv_iload_n hx hb dX6_vanishesAtReal_41 rfl (lv_at hl 3 rfl) ?_
            obtain ⟨h42, hG⟩ := f_gd hG
            have i42 := f_fin h42
            refine x_iald F hP rfl rfl i42 dX6_vanishesAtReal_42 ?_
            refine lv_if_ge (tgt := 50) hx hb dX6_vanishesAtReal_43 (by decide) (fun c43 => ?_) (fun c43 => ?_)
            · have hG := f_ip c43 hG
              refine lv_iconst (v := 0) hx hb dX6_vanishesAtReal_50 (by decide) ?_
              refine lv_ior hx hb dX6_vanishesAtReal_51 ?_
              refine lv_topi (fun v52 e52 => ?_)
              have hG := f_lt hG e52
              refine lv_istore_n (lv' := [(2, .int v52), (1, .int v35), (0, .ref (E.2.1 16)), (3, .int x6_3)]) hx hb dX6_vanishesAtReal_52 rfl hl (by decide) rfl (fun ls hl => ?_)
              refine lv_iinc (v := (x6_3 + (1 : Int32))) (lv' := [(3, .int (x6_3 + (1 : Int32))), (2, .int v52), (1, .int v35), (0, .ref (E.2.1 16))]) hx hb dX6_vanishesAtReal_53 hl (k := 3) rfl (by rfl) (by decide) rfl (fun ls hl => ?_)
              refine lv_goto (tgt := 6) hx hb dX6_vanishesAtReal_56 (by decide) ?_
              exact ih6 v35 v52 (x6_3 + (1 : Int32)) σj26 _ _ _ hP hS (lv_sub hl [3, 2, 1, 0] rfl) hG
            · have hG := f_in c43 hG
              refine lv_iconst (v := 1) hx hb dX6_vanishesAtReal_46 (by decide) ?_
              refine lv_goto (tgt := 51) hx hb dX6_vanishesAtReal_47 (by decide) ?_
              refine lv_ior hx hb dX6_vanishesAtReal_51 ?_
              refine lv_topi (fun v52 e52 => ?_)
              have hG := f_lt hG e52
              refine lv_istore_n (lv' := [(2, .int v52), (1, .int v35), (0, .ref (E.2.1 16)), (3, .int x6_3)]) hx hb dX6_vanishesAtReal_52 rfl hl (by decide) rfl (fun ls hl => ?_)
              refine lv_iinc (v := (x6_3 + (1 : Int32))) (lv' := [(3, .int (x6_3 + (1 : Int32))), (2, .int v52), (1, .int v35), (0, .ref (E.2.1 16))]) hx hb dX6_vanishesAtReal_53 hl (k := 3) rfl (by rfl) (by decide) rfl (fun ls hl => ?_)
              refine lv_goto (tgt := 6) hx hb dX6_vanishesAtReal_56 (by decide) ?_
              exact ih6 v35 v52 (x6_3 + (1 : Int32)) σj26 _ _ _ hP hS (lv_sub hl [3, 2, 1, 0] rfl) hG
          have hG := hT26
          clear hT26
          refine lv_if_le (tgt := 33) hx hb dX6_vanishesAtReal_26 (by decide) (fun c26 => ?_) (fun c26 => ?_)
          · have hG := f_ip c26 hG
            refine lv_iconst (v := 0) hx hb dX6_vanishesAtReal_33 (by decide) ?_
            cases hG
            exact T26 _ _ _ hP hS (lv_sub hl [0, 2, 3] rfl)
          · have hG := f_in c26 hG
            refine lv_iconst (v := 1) hx hb dX6_vanishesAtReal_29 (by decide) ?_
            refine lv_goto (tgt := 34) hx hb dX6_vanishesAtReal_30 (by decide) ?_
            cases hG
            exact T26 _ _ _ hP hS (lv_sub hl [0, 2, 3] rfl)
  exact L6 N (0 : Int32) (0 : Int32) (0 : Int32) σ _ _ _ hP hS (lv_sub hl [3, 2, 1, 0] rfl) hT6
theorem dX6_turned_0 : decode cX6_turned 0 = .ok (.iload_n 1, 1) := by decide +kernel
theorem dX6_turned_1 : decode cX6_turned 1 = .ok (.bipush 15, 2) := by decide +kernel
theorem dX6_turned_3 : decode cX6_turned 3 = .ok (.iand, 1) := by decide +kernel
theorem dX6_turned_4 : decode cX6_turned 4 = .ok (.istore_n 2, 1) := by decide +kernel
theorem dX6_turned_5 : decode cX6_turned 5 = .ok (.iload_n 0, 1) := by decide +kernel
theorem dX6_turned_6 : decode cX6_turned 6 = .ok (.iload_n 2, 1) := by decide +kernel
theorem dX6_turned_7 : decode cX6_turned 7 = .ok (.ishl, 1) := by decide +kernel
theorem dX6_turned_8 : decode cX6_turned 8 = .ok (.iload_n 0, 1) := by decide +kernel
theorem dX6_turned_9 : decode cX6_turned 9 = .ok (.bipush 16, 2) := by decide +kernel
theorem dX6_turned_11 : decode cX6_turned 11 = .ok (.iload_n 2, 1) := by decide +kernel
theorem dX6_turned_12 : decode cX6_turned 12 = .ok (.isub, 1) := by decide +kernel
theorem dX6_turned_13 : decode cX6_turned 13 = .ok (.ishr, 1) := by decide +kernel
theorem dX6_turned_14 : decode cX6_turned 14 = .ok (.ior, 1) := by decide +kernel
theorem dX6_turned_15 : decode cX6_turned 15 = .ok (.ldc 62, 2) := by decide +kernel
theorem dX6_turned_17 : decode cX6_turned 17 = .ok (.iand, 1) := by decide +kernel
theorem dX6_turned_18 : decode cX6_turned 18 = .ok (.ireturn, 1) := by decide +kernel
set_option maxHeartbeats 4000000 in
set_option maxRecDepth 100000 in
theorem c_X6_turned (l : Launch) (E : fEv) (N : Nat) (a0 : Int32) (a1 : Int32) (σ : fS) (r : Int32) (τ : fS) (hG : g_X6_turned N a0 a1 σ = some (r, τ)) : fM l E yX6_turned (.code yX6_turned cX6_turned 3 (some .int)) rm_X6_turned [.int a0, .int a1] σ τ (some (.int r)) := by
  refine f_openI (by decide) (Nat.le_of_ble_eq_true rfl) ?_
  intro p e s m below meth c args Q F hR hP ls hl
  have hx := F.1.1
  have hb := F.1.2.1
  have hown := F.1.2.2.2.1
  have hts := F.1.2.2.2.2
  have hS : va_S (f_A E) s.heap s.heap [] := va_S.rf
  skip
  have hl : lv_has ls 3 [(0, .int a0), (1, .int a1)] := hl
  unfold g_X6_turned at hG
  refine lv_iload_n hx hb dX6_turned_0 rfl (lv_at hl 1 rfl) ?_
  refine lv_bipush (v := 15) hx hb dX6_turned_1 (by decide) ?_
  refine lv_iand hx hb dX6_turned_3 ?_
  refine lv_topi (fun v4 e4 => ?_)
  have hG := f_lt hG e4
  refine lv_istore_n (lv' := [(2, .int v4), (0, .int a0), (1, .int a1)]) hx hb dX6_turned_4 rfl hl (by decide) rfl (fun ls hl => ?_)
  refine lv_iload_n hx hb dX6_turned_5 rfl (lv_at hl 1 rfl) ?_
  refine lv_iload_n hx hb dX6_turned_6 rfl (lv_at hl 0 rfl) ?_
  refine lv_ishl hx hb dX6_turned_7 ?_
  refine lv_iload_n hx hb dX6_turned_8 rfl (lv_at hl 1 rfl) ?_
  refine lv_bipush (v := 16) hx hb dX6_turned_9 (by decide) ?_
  refine lv_iload_n hx hb dX6_turned_11 rfl (lv_at hl 0 rfl) ?_
  refine lv_isub hx hb dX6_turned_12 ?_
  refine lv_ishr hx hb dX6_turned_13 ?_
  refine lv_ior hx hb dX6_turned_14 ?_
  refine lv_ldc (v := 65535) hx hb hown (hts _ wk_X6_62) dX6_turned_15 ?_
  refine lv_iand hx hb dX6_turned_17 ?_
  exact x_ri hR hS hP hG dX6_turned_18
theorem dX6_vanishesAtTwo_0 : decode cX6_vanishesAtTwo 0 = .ok (.iconst 1, 1) := by decide +kernel
theorem dX6_vanishesAtTwo_1 : decode cX6_vanishesAtTwo 1 = .ok (.istore_n 1, 1) := by decide +kernel
theorem dX6_vanishesAtTwo_2 : decode cX6_vanishesAtTwo 2 = .ok (.iconst 0, 1) := by decide +kernel
theorem dX6_vanishesAtTwo_3 : decode cX6_vanishesAtTwo 3 = .ok (.istore_n 2, 1) := by decide +kernel
theorem dX6_vanishesAtTwo_4 : decode cX6_vanishesAtTwo 4 = .ok (.iconst 0, 1) := by decide +kernel
theorem dX6_vanishesAtTwo_5 : decode cX6_vanishesAtTwo 5 = .ok (.istore_n 3, 1) := by decide +kernel
theorem dX6_vanishesAtTwo_6 : decode cX6_vanishesAtTwo 6 = .ok (.iload_n 3, 1) := by decide +kernel
theorem dX6_vanishesAtTwo_7 : decode cX6_vanishesAtTwo 7 = .ok (.aload_n 0, 1) := by decide +kernel
theorem dX6_vanishesAtTwo_8 : decode cX6_vanishesAtTwo 8 = .ok (.getfield 15, 3) := by decide +kernel
theorem dX6_vanishesAtTwo_11 : decode cX6_vanishesAtTwo 11 = .ok (.if_icmp .ge 68, 3) := by decide +kernel
theorem dX6_vanishesAtTwo_14 : decode cX6_vanishesAtTwo 14 = .ok (.iload_n 3, 1) := by decide +kernel
theorem dX6_vanishesAtTwo_15 : decode cX6_vanishesAtTwo 15 = .ok (.iconst 5, 1) := by decide +kernel
theorem dX6_vanishesAtTwo_16 : decode cX6_vanishesAtTwo 16 = .ok (.if_icmp .ge 63, 3) := by decide +kernel
theorem dX6_vanishesAtTwo_19 : decode cX6_vanishesAtTwo 19 = .ok (.aload_n 0, 1) := by decide +kernel
theorem dX6_vanishesAtTwo_20 : decode cX6_vanishesAtTwo 20 = .ok (.getfield 11, 3) := by decide +kernel
theorem dX6_vanishesAtTwo_23 : decode cX6_vanishesAtTwo 23 = .ok (.iload_n 3, 1) := by decide +kernel
theorem dX6_vanishesAtTwo_24 : decode cX6_vanishesAtTwo 24 = .ok (.iaload, 1) := by decide +kernel
theorem dX6_vanishesAtTwo_25 : decode cX6_vanishesAtTwo 25 = .ok (.istore 4, 2) := by decide +kernel
theorem dX6_vanishesAtTwo_27 : decode cX6_vanishesAtTwo 27 = .ok (.iload_n 1, 1) := by decide +kernel
theorem dX6_vanishesAtTwo_28 : decode cX6_vanishesAtTwo 28 = .ok (.iload_n 2, 1) := by decide +kernel
theorem dX6_vanishesAtTwo_29 : decode cX6_vanishesAtTwo 29 = .ok (.ior, 1) := by decide +kernel
theorem dX6_vanishesAtTwo_30 : decode cX6_vanishesAtTwo 30 = .ok (.istore 5, 2) := by decide +kernel
theorem dX6_vanishesAtTwo_32 : decode cX6_vanishesAtTwo 32 = .ok (.iload_n 2, 1) := by decide +kernel
theorem dX6_vanishesAtTwo_33 : decode cX6_vanishesAtTwo 33 = .ok (.iload_n 2, 1) := by decide +kernel
theorem dX6_vanishesAtTwo_34 : decode cX6_vanishesAtTwo 34 = .ok (.iconst 4, 1) := by decide +kernel
theorem dX6_vanishesAtTwo_35 : decode cX6_vanishesAtTwo 35 = .ok (.iload 4, 2) := by decide +kernel
theorem dX6_vanishesAtTwo_37 : decode cX6_vanishesAtTwo 37 = .ok (.imul, 1) := by decide +kernel
theorem dX6_vanishesAtTwo_38 : decode cX6_vanishesAtTwo 38 = .ok (.invokestatic 58, 3) := by decide +kernel
theorem dX6_vanishesAtTwo_41 : decode cX6_vanishesAtTwo 41 = .ok (.ior, 1) := by decide +kernel
theorem dX6_vanishesAtTwo_42 : decode cX6_vanishesAtTwo 42 = .ok (.iload 5, 2) := by decide +kernel
theorem dX6_vanishesAtTwo_44 : decode cX6_vanishesAtTwo 44 = .ok (.iload 4, 2) := by decide +kernel
theorem dX6_vanishesAtTwo_46 : decode cX6_vanishesAtTwo 46 = .ok (.invokestatic 58, 3) := by decide +kernel
theorem dX6_vanishesAtTwo_49 : decode cX6_vanishesAtTwo 49 = .ok (.ior, 1) := by decide +kernel
theorem dX6_vanishesAtTwo_50 : decode cX6_vanishesAtTwo 50 = .ok (.iload 5, 2) := by decide +kernel
theorem dX6_vanishesAtTwo_52 : decode cX6_vanishesAtTwo 52 = .ok (.bipush 9, 2) := by decide +kernel
theorem dX6_vanishesAtTwo_54 : decode cX6_vanishesAtTwo 54 = .ok (.iload 4, 2) := by decide +kernel
theorem dX6_vanishesAtTwo_56 : decode cX6_vanishesAtTwo 56 = .ok (.imul, 1) := by decide +kernel
theorem dX6_vanishesAtTwo_57 : decode cX6_vanishesAtTwo 57 = .ok (.invokestatic 58, 3) := by decide +kernel
theorem dX6_vanishesAtTwo_60 : decode cX6_vanishesAtTwo 60 = .ok (.ior, 1) := by decide +kernel
theorem dX6_vanishesAtTwo_61 : decode cX6_vanishesAtTwo 61 = .ok (.istore_n 2, 1) := by decide +kernel
theorem dX6_vanishesAtTwo_62 : decode cX6_vanishesAtTwo 62 = .ok (.iload_n 1, 1) := by decide +kernel
theorem dX6_vanishesAtTwo_63 : decode cX6_vanishesAtTwo 63 = .ok (.iload_n 1, 1) := by decide +kernel
theorem dX6_vanishesAtTwo_64 : decode cX6_vanishesAtTwo 64 = .ok (.iconst 4, 1) := by decide +kernel
theorem dX6_vanishesAtTwo_65 : decode cX6_vanishesAtTwo 65 = .ok (.iload 4, 2) := by decide +kernel
theorem dX6_vanishesAtTwo_67 : decode cX6_vanishesAtTwo 67 = .ok (.imul, 1) := by decide +kernel
theorem dX6_vanishesAtTwo_68 : decode cX6_vanishesAtTwo 68 = .ok (.invokestatic 58, 3) := by decide +kernel
theorem dX6_vanishesAtTwo_71 : decode cX6_vanishesAtTwo 71 = .ok (.ior, 1) := by decide +kernel
theorem dX6_vanishesAtTwo_72 : decode cX6_vanishesAtTwo 72 = .ok (.istore_n 1, 1) := by decide +kernel
theorem dX6_vanishesAtTwo_73 : decode cX6_vanishesAtTwo 73 = .ok (.iinc 3 1, 3) := by decide +kernel
theorem dX6_vanishesAtTwo_76 : decode cX6_vanishesAtTwo 76 = .ok (.goto (-70), 3) := by decide +kernel
theorem dX6_vanishesAtTwo_79 : decode cX6_vanishesAtTwo 79 = .ok (.iload_n 2, 1) := by decide +kernel
theorem dX6_vanishesAtTwo_80 : decode cX6_vanishesAtTwo 80 = .ok (.iconst 1, 1) := by decide +kernel
theorem dX6_vanishesAtTwo_81 : decode cX6_vanishesAtTwo 81 = .ok (.iand, 1) := by decide +kernel
theorem dX6_vanishesAtTwo_82 : decode cX6_vanishesAtTwo 82 = .ok (.iconst 1, 1) := by decide +kernel
theorem dX6_vanishesAtTwo_83 : decode cX6_vanishesAtTwo 83 = .ok (.if_icmp .ne 7, 3) := by decide +kernel
theorem dX6_vanishesAtTwo_86 : decode cX6_vanishesAtTwo 86 = .ok (.iconst 1, 1) := by decide +kernel
theorem dX6_vanishesAtTwo_87 : decode cX6_vanishesAtTwo 87 = .ok (.goto 4, 3) := by decide +kernel
theorem dX6_vanishesAtTwo_90 : decode cX6_vanishesAtTwo 90 = .ok (.iconst 0, 1) := by decide +kernel
theorem dX6_vanishesAtTwo_91 : decode cX6_vanishesAtTwo 91 = .ok (.ireturn, 1) := by decide +kernel
set_option maxHeartbeats 4000000 in
set_option maxRecDepth 100000 in
theorem c_X6_vanishesAtTwo (l : Launch) (E : fEv) (N : Nat)  (σ : fS) (r : Int32) (τ : fS) (hG : g_X6_vanishesAtTwo N  σ = some (r, τ)) : fM l E yX6_vanishesAtTwo (.code yX6_vanishesAtTwo cX6_vanishesAtTwo 6 (some .boolean)) rm_X6_vanishesAtTwo [.ref (E.2.1 16)] σ τ (some (.int r)) := by
  refine f_openZ (by decide) (Nat.le_of_ble_eq_true rfl) ?_
  intro p e s m below meth c args Q F hR hP ls hl
  have hx := F.1.1
  have hb := F.1.2.1
  have hown := F.1.2.2.2.1
  have hts := F.1.2.2.2.2
  have hS : va_S (f_A E) s.heap s.heap [] := va_S.rf
  skip
  have hl : lv_has ls 6 [(0, .ref (E.2.1 16))] := hl
  unfold g_X6_vanishesAtTwo at hG
  refine lv_iconst (v := 1) hx hb dX6_vanishesAtTwo_0 (by decide) ?_
  refine lv_istore_n (lv' := [(1, .int (1 : Int32)), (0, .ref (E.2.1 16))]) hx hb dX6_vanishesAtTwo_1 rfl hl (by decide) rfl (fun ls hl => ?_)
  refine lv_iconst (v := 0) hx hb dX6_vanishesAtTwo_2 (by decide) ?_
  refine lv_istore_n (lv' := [(2, .int (0 : Int32)), (1, .int (1 : Int32)), (0, .ref (E.2.1 16))]) hx hb dX6_vanishesAtTwo_3 rfl hl (by decide) rfl (fun ls hl => ?_)
  refine lv_iconst (v := 0) hx hb dX6_vanishesAtTwo_4 (by decide) ?_
  refine lv_istore_n (lv' := [(3, .int (0 : Int32)), (2, .int (0 : Int32)), (1, .int (1 : Int32)), (0, .ref (E.2.1 16))]) hx hb dX6_vanishesAtTwo_5 rfl hl (by decide) rfl (fun ls hl => ?_)
  obtain ⟨o6, σl6, hT6, hG⟩ := f_bd hG
  have T6 : ∀ (H : Heap) (locs : List Loc) (ls : Array Slot), f_h E σl6 H → va_S (f_A E) s.heap H locs → lv_has ls 6 [(2, .int o6)] → W p l e rm_X6_vanishesAtTwo s m args below meth c H locs 0 0 Q (F0 m 79 ls []) := by
    intro H locs ls hP hS hl
    refine lv_iload_n hx hb dX6_vanishesAtTwo_79 rfl (lv_at hl 0 rfl) ?_
    refine lv_iconst (v := 1) hx hb dX6_vanishesAtTwo_80 (by decide) ?_
    refine lv_iand hx hb dX6_vanishesAtTwo_81 ?_
    refine lv_iconst (v := 1) hx hb dX6_vanishesAtTwo_82 (by decide) ?_
    refine lv_icmp_ne (tgt := 90) hx hb dX6_vanishesAtTwo_83 (by decide) (fun c83 => ?_) (fun c83 => ?_)
    · have hG := f_in c83 hG
      refine lv_iconst (v := 0) hx hb dX6_vanishesAtTwo_90 (by decide) ?_
      exact x_rz hR hS hP (Or.inl rfl) hG dX6_vanishesAtTwo_91
    · have hG := f_ip c83 hG
      refine lv_iconst (v := 1) hx hb dX6_vanishesAtTwo_86 (by decide) ?_
      refine lv_goto (tgt := 91) hx hb dX6_vanishesAtTwo_87 (by decide) ?_
      exact x_rz hR hS hP (Or.inr rfl) hG dX6_vanishesAtTwo_91
  have L6 : ∀ (n6 : Nat) (x6_1 : Int32) (x6_2 : Int32) (x6_3 : Int32) (σh6 : fS) (H : Heap) (locs : List Loc) (ls : Array Slot), f_h E σh6 H → va_S (f_A E) s.heap H locs → lv_has ls 6 [(0, .ref (E.2.1 16)), (1, .int x6_1), (2, .int x6_2), (3, .int x6_3)] → lp_X6_vanishesAtTwo_6 N n6 x6_1 x6_2 x6_3 σh6 = some (o6, σl6) → W p l e rm_X6_vanishesAtTwo s m args below meth c H locs 0 0 Q (F0 m 6 ls []) := by
    intro n6
    induction n6 with
    | zero =>
      intro x6_1 x6_2 x6_3 σh6 H locs ls hP hS hl hG
      rw [lp_X6_vanishesAtTwo_6] at hG
      cases hG
    | succ n6 ih6 =>
      intro x6_1 x6_2 x6_3 σh6 H locs ls hP hS hl hG
      rw [lp_X6_vanishesAtTwo_6] at hG
      refine lv_iload_n hx hb dX6_vanishesAtTwo_6 rfl (lv_at hl 3 rfl) ?_
      refine lv_aload_n hx hb dX6_vanishesAtTwo_7 rfl (lv_at hl 0 rfl) ?_
      refine gf_X6_15 F hP dX6_vanishesAtTwo_8 ?_
      refine lv_icmp_ge (tgt := 79) hx hb dX6_vanishesAtTwo_11 (by decide) (fun c11 => ?_) (fun c11 => ?_)
      · have hG := f_ip c11 hG
        cases hG
        exact T6 _ _ _ hP hS (lv_sub hl [2] rfl)
      · have hG := f_in c11 hG
        refine lv_iload_n hx hb dX6_vanishesAtTwo_14 rfl (lv_at hl 3 rfl) ?_
        refine lv_iconst (v := 5) hx hb dX6_vanishesAtTwo_15 (by decide) ?_
        refine lv_icmp_ge (tgt := 79) hx hb dX6_vanishesAtTwo_16 (by decide) (fun c16 => ?_) (fun c16 => ?_)
        · have hG := f_ip c16 hG
          cases hG
          exact T6 _ _ _ hP hS (lv_sub hl [2] rfl)
        · have hG := f_in c16 hG
          refine lv_aload_n hx hb dX6_vanishesAtTwo_19 rfl (lv_at hl 0 rfl) ?_
          refine gf_X6_11 F hP dX6_vanishesAtTwo_20 ?_
          refine lv_iload_n hx hb dX6_vanishesAtTwo_23 rfl (lv_at hl 3 rfl) ?_
          obtain ⟨h24, hG⟩ := f_gd hG
          have i24 := f_fin h24
          refine x_iald F hP rfl rfl i24 dX6_vanishesAtTwo_24 ?_
          refine lv_topi (fun v25 e25 => ?_)
          have hG := f_lt hG e25
          refine lv_istore (lv' := [(4, .int v25), (0, .ref (E.2.1 16)), (1, .int x6_1), (2, .int x6_2), (3, .int x6_3)]) hx hb dX6_vanishesAtTwo_25 hl (by decide) rfl (fun ls hl => ?_)
          refine lv_iload_n hx hb dX6_vanishesAtTwo_27 rfl (lv_at hl 2 rfl) ?_
          refine lv_iload_n hx hb dX6_vanishesAtTwo_28 rfl (lv_at hl 3 rfl) ?_
          refine lv_ior hx hb dX6_vanishesAtTwo_29 ?_
          refine lv_topi (fun v30 e30 => ?_)
          have hG := f_lt hG e30
          refine lv_istore (lv' := [(5, .int v30), (4, .int v25), (0, .ref (E.2.1 16)), (1, .int x6_1), (2, .int x6_2), (3, .int x6_3)]) hx hb dX6_vanishesAtTwo_30 hl (by decide) rfl (fun ls hl => ?_)
          refine lv_iload_n hx hb dX6_vanishesAtTwo_32 rfl (lv_at hl 4 rfl) ?_
          refine lv_iload_n hx hb dX6_vanishesAtTwo_33 rfl (lv_at hl 4 rfl) ?_
          refine lv_iconst (v := 4) hx hb dX6_vanishesAtTwo_34 (by decide) ?_
          refine lv_iload hx hb dX6_vanishesAtTwo_35 (lv_at hl 1 rfl) ?_
          refine lv_imul hx hb dX6_vanishesAtTwo_37 ?_
          obtain ⟨r38, σ38, hC38, hG⟩ := f_bd hG
          refine iv_X6_58 F hS hP (c_X6_turned l E N x6_2 ((4 : Int32) * v25) σh6 _ _ hC38) ⟨Nat.le_of_ble_eq_true rfl, Nat.le_of_ble_eq_true rfl⟩ hl.1 (Nat.le_of_ble_eq_true rfl) dX6_vanishesAtTwo_38 ⟨Nat.zero_le _, Nat.zero_le _⟩ (fun H locs hP hS => ?_)
          refine lv_ior hx hb dX6_vanishesAtTwo_41 ?_
          refine lv_iload hx hb dX6_vanishesAtTwo_42 (lv_at hl 0 rfl) ?_
          refine lv_iload hx hb dX6_vanishesAtTwo_44 (lv_at hl 1 rfl) ?_
          obtain ⟨r46, σ46, hC46, hG⟩ := f_bd hG
          refine iv_X6_58 F hS hP (c_X6_turned l E N v30 v25 σ38 _ _ hC46) ⟨Nat.le_of_ble_eq_true rfl, Nat.le_of_ble_eq_true rfl⟩ hl.1 (Nat.le_of_ble_eq_true rfl) dX6_vanishesAtTwo_46 ⟨Nat.zero_le _, Nat.zero_le _⟩ (fun H locs hP hS => ?_)
          refine lv_ior hx hb dX6_vanishesAtTwo_49 ?_
          refine lv_iload hx hb dX6_vanishesAtTwo_50 (lv_at hl 0 rfl) ?_
          refine lv_bipush (v := 9) hx hb dX6_vanishesAtTwo_52 (by decide) ?_
          refine lv_iload hx hb dX6_vanishesAtTwo_54 (lv_at hl 1 rfl) ?_
          refine lv_imul hx hb dX6_vanishesAtTwo_56 ?_
          obtain ⟨r57, σ57, hC57, hG⟩ := f_bd hG
          refine iv_X6_58 F hS hP (c_X6_turned l E N v30 ((9 : Int32) * v25) σ46 _ _ hC57) ⟨Nat.le_of_ble_eq_true rfl, Nat.le_of_ble_eq_true rfl⟩ hl.1 (Nat.le_of_ble_eq_true rfl) dX6_vanishesAtTwo_57 ⟨Nat.zero_le _, Nat.zero_le _⟩ (fun H locs hP hS => ?_)
          refine lv_ior hx hb dX6_vanishesAtTwo_60 ?_
          refine lv_topi (fun v61 e61 => ?_)
          have hG := f_lt hG e61
          refine lv_istore_n (lv' := [(2, .int v61), (5, .int v30), (4, .int v25), (0, .ref (E.2.1 16)), (1, .int x6_1), (3, .int x6_3)]) hx hb dX6_vanishesAtTwo_61 rfl hl (by decide) rfl (fun ls hl => ?_)
          refine lv_iload_n hx hb dX6_vanishesAtTwo_62 rfl (lv_at hl 4 rfl) ?_
          refine lv_iload_n hx hb dX6_vanishesAtTwo_63 rfl (lv_at hl 4 rfl) ?_
          refine lv_iconst (v := 4) hx hb dX6_vanishesAtTwo_64 (by decide) ?_
          refine lv_iload hx hb dX6_vanishesAtTwo_65 (lv_at hl 2 rfl) ?_
          refine lv_imul hx hb dX6_vanishesAtTwo_67 ?_
          obtain ⟨r68, σ68, hC68, hG⟩ := f_bd hG
          refine iv_X6_58 F hS hP (c_X6_turned l E N x6_1 ((4 : Int32) * v25) σ57 _ _ hC68) ⟨Nat.le_of_ble_eq_true rfl, Nat.le_of_ble_eq_true rfl⟩ hl.1 (Nat.le_of_ble_eq_true rfl) dX6_vanishesAtTwo_68 ⟨Nat.zero_le _, Nat.zero_le _⟩ (fun H locs hP hS => ?_)
          refine lv_ior hx hb dX6_vanishesAtTwo_71 ?_
          refine lv_topi (fun v72 e72 => ?_)
          have hG := f_lt hG e72
          refine lv_istore_n (lv' := [(1, .int v72), (2, .int v61), (5, .int v30), (4, .int v25), (0, .ref (E.2.1 16)), (3, .int x6_3)]) hx hb dX6_vanishesAtTwo_72 rfl hl (by decide) rfl (fun ls hl => ?_)
          refine lv_iinc (v := (x6_3 + (1 : Int32))) (lv' := [(3, .int (x6_3 + (1 : Int32))), (1, .int v72), (2, .int v61), (5, .int v30), (4, .int v25), (0, .ref (E.2.1 16))]) hx hb dX6_vanishesAtTwo_73 hl (k := 5) rfl (by rfl) (by decide) rfl (fun ls hl => ?_)
          refine lv_goto (tgt := 6) hx hb dX6_vanishesAtTwo_76 (by decide) ?_
          exact ih6 v72 v61 (x6_3 + (1 : Int32)) σ68 _ _ _ hP hS (lv_sub hl [5, 1, 2, 0] rfl) hG
  exact L6 N (1 : Int32) (0 : Int32) (0 : Int32) σ _ _ _ hP hS (lv_sub hl [3, 2, 1, 0] rfl) hT6
theorem dX6_partVanishes_0 : decode cX6_partVanishes 0 = .ok (.iload_n 1, 1) := by decide +kernel
theorem dX6_partVanishes_1 : decode cX6_partVanishes 1 = .ok (.iconst 2, 1) := by decide +kernel
theorem dX6_partVanishes_2 : decode cX6_partVanishes 2 = .ok (.if_icmp .lt 19, 3) := by decide +kernel
theorem dX6_partVanishes_5 : decode cX6_partVanishes 5 = .ok (.iload_n 1, 1) := by decide +kernel
theorem dX6_partVanishes_6 : decode cX6_partVanishes 6 = .ok (.getstatic 51, 3) := by decide +kernel
theorem dX6_partVanishes_9 : decode cX6_partVanishes 9 = .ok (.arraylength, 1) := by decide +kernel
theorem dX6_partVanishes_10 : decode cX6_partVanishes 10 = .ok (.if_icmp .ge 11, 3) := by decide +kernel
theorem dX6_partVanishes_13 : decode cX6_partVanishes 13 = .ok (.iload_n 1, 1) := by decide +kernel
theorem dX6_partVanishes_14 : decode cX6_partVanishes 14 = .ok (.getstatic 63, 3) := by decide +kernel
theorem dX6_partVanishes_17 : decode cX6_partVanishes 17 = .ok (.arraylength, 1) := by decide +kernel
theorem dX6_partVanishes_18 : decode cX6_partVanishes 18 = .ok (.if_icmp .lt 5, 3) := by decide +kernel
theorem dX6_partVanishes_21 : decode cX6_partVanishes 21 = .ok (.iconst 0, 1) := by decide +kernel
theorem dX6_partVanishes_22 : decode cX6_partVanishes 22 = .ok (.ireturn, 1) := by decide +kernel
theorem dX6_partVanishes_23 : decode cX6_partVanishes 23 = .ok (.getstatic 51, 3) := by decide +kernel
theorem dX6_partVanishes_26 : decode cX6_partVanishes 26 = .ok (.iload_n 1, 1) := by decide +kernel
theorem dX6_partVanishes_27 : decode cX6_partVanishes 27 = .ok (.iaload, 1) := by decide +kernel
theorem dX6_partVanishes_28 : decode cX6_partVanishes 28 = .ok (.istore_n 3, 1) := by decide +kernel
theorem dX6_partVanishes_29 : decode cX6_partVanishes 29 = .ok (.iconst 0, 1) := by decide +kernel
theorem dX6_partVanishes_30 : decode cX6_partVanishes 30 = .ok (.istore 4, 2) := by decide +kernel
theorem dX6_partVanishes_32 : decode cX6_partVanishes 32 = .ok (.iconst 1, 1) := by decide +kernel
theorem dX6_partVanishes_33 : decode cX6_partVanishes 33 = .ok (.istore 5, 2) := by decide +kernel
theorem dX6_partVanishes_35 : decode cX6_partVanishes 35 = .ok (.iconst 0, 1) := by decide +kernel
theorem dX6_partVanishes_36 : decode cX6_partVanishes 36 = .ok (.istore 6, 2) := by decide +kernel
theorem dX6_partVanishes_38 : decode cX6_partVanishes 38 = .ok (.iload 6, 2) := by decide +kernel
theorem dX6_partVanishes_40 : decode cX6_partVanishes 40 = .ok (.aload_n 0, 1) := by decide +kernel
theorem dX6_partVanishes_41 : decode cX6_partVanishes 41 = .ok (.getfield 15, 3) := by decide +kernel
theorem dX6_partVanishes_44 : decode cX6_partVanishes 44 = .ok (.if_icmp .ge 85, 3) := by decide +kernel
theorem dX6_partVanishes_47 : decode cX6_partVanishes 47 = .ok (.iload 6, 2) := by decide +kernel
theorem dX6_partVanishes_49 : decode cX6_partVanishes 49 = .ok (.iconst 5, 1) := by decide +kernel
theorem dX6_partVanishes_50 : decode cX6_partVanishes 50 = .ok (.if_icmp .ge 79, 3) := by decide +kernel
theorem dX6_partVanishes_53 : decode cX6_partVanishes 53 = .ok (.aload_n 0, 1) := by decide +kernel
theorem dX6_partVanishes_54 : decode cX6_partVanishes 54 = .ok (.getfield 11, 3) := by decide +kernel
theorem dX6_partVanishes_57 : decode cX6_partVanishes 57 = .ok (.iload 6, 2) := by decide +kernel
theorem dX6_partVanishes_59 : decode cX6_partVanishes 59 = .ok (.iaload, 1) := by decide +kernel
theorem dX6_partVanishes_60 : decode cX6_partVanishes 60 = .ok (.istore 7, 2) := by decide +kernel
theorem dX6_partVanishes_62 : decode cX6_partVanishes 62 = .ok (.iload_n 2, 1) := by decide +kernel
theorem dX6_partVanishes_63 : decode cX6_partVanishes 63 = .ok (.ifCond .eq 18, 3) := by decide +kernel
theorem dX6_partVanishes_66 : decode cX6_partVanishes 66 = .ok (.iload 7, 2) := by decide +kernel
theorem dX6_partVanishes_68 : decode cX6_partVanishes 68 = .ok (.iload_n 3, 1) := by decide +kernel
theorem dX6_partVanishes_69 : decode cX6_partVanishes 69 = .ok (.irem, 1) := by decide +kernel
theorem dX6_partVanishes_70 : decode cX6_partVanishes 70 = .ok (.ifCond .ne 7, 3) := by decide +kernel
theorem dX6_partVanishes_73 : decode cX6_partVanishes 73 = .ok (.iconst 1, 1) := by decide +kernel
theorem dX6_partVanishes_74 : decode cX6_partVanishes 74 = .ok (.goto 19, 3) := by decide +kernel
theorem dX6_partVanishes_77 : decode cX6_partVanishes 77 = .ok (.iconst 0, 1) := by decide +kernel
theorem dX6_partVanishes_78 : decode cX6_partVanishes 78 = .ok (.goto 15, 3) := by decide +kernel
theorem dX6_partVanishes_81 : decode cX6_partVanishes 81 = .ok (.iload 7, 2) := by decide +kernel
theorem dX6_partVanishes_83 : decode cX6_partVanishes 83 = .ok (.iload_n 3, 1) := by decide +kernel
theorem dX6_partVanishes_84 : decode cX6_partVanishes 84 = .ok (.irem, 1) := by decide +kernel
theorem dX6_partVanishes_85 : decode cX6_partVanishes 85 = .ok (.ifCond .eq 7, 3) := by decide +kernel
theorem dX6_partVanishes_88 : decode cX6_partVanishes 88 = .ok (.iconst 1, 1) := by decide +kernel
theorem dX6_partVanishes_89 : decode cX6_partVanishes 89 = .ok (.goto 4, 3) := by decide +kernel
theorem dX6_partVanishes_92 : decode cX6_partVanishes 92 = .ok (.iconst 0, 1) := by decide +kernel
theorem dX6_partVanishes_93 : decode cX6_partVanishes 93 = .ok (.istore 8, 2) := by decide +kernel
theorem dX6_partVanishes_95 : decode cX6_partVanishes 95 = .ok (.iload 8, 2) := by decide +kernel
theorem dX6_partVanishes_97 : decode cX6_partVanishes 97 = .ok (.ifCond .eq 26, 3) := by decide +kernel
theorem dX6_partVanishes_100 : decode cX6_partVanishes 100 = .ok (.iinc 4 1, 3) := by decide +kernel
theorem dX6_partVanishes_103 : decode cX6_partVanishes 103 = .ok (.iload 5, 2) := by decide +kernel
theorem dX6_partVanishes_105 : decode cX6_partVanishes 105 = .ok (.iload_n 2, 1) := by decide +kernel
theorem dX6_partVanishes_106 : decode cX6_partVanishes 106 = .ok (.ifCond .eq 10, 3) := by decide +kernel
theorem dX6_partVanishes_109 : decode cX6_partVanishes 109 = .ok (.iload 7, 2) := by decide +kernel
theorem dX6_partVanishes_111 : decode cX6_partVanishes 111 = .ok (.iload_n 3, 1) := by decide +kernel
theorem dX6_partVanishes_112 : decode cX6_partVanishes 112 = .ok (.idiv, 1) := by decide +kernel
theorem dX6_partVanishes_113 : decode cX6_partVanishes 113 = .ok (.goto 5, 3) := by decide +kernel
theorem dX6_partVanishes_116 : decode cX6_partVanishes 116 = .ok (.iload 7, 2) := by decide +kernel
theorem dX6_partVanishes_118 : decode cX6_partVanishes 118 = .ok (.imul, 1) := by decide +kernel
theorem dX6_partVanishes_119 : decode cX6_partVanishes 119 = .ok (.iload_n 3, 1) := by decide +kernel
theorem dX6_partVanishes_120 : decode cX6_partVanishes 120 = .ok (.irem, 1) := by decide +kernel
theorem dX6_partVanishes_121 : decode cX6_partVanishes 121 = .ok (.istore 5, 2) := by decide +kernel
theorem dX6_partVanishes_123 : decode cX6_partVanishes 123 = .ok (.iinc 6 1, 3) := by decide +kernel
theorem dX6_partVanishes_126 : decode cX6_partVanishes 126 = .ok (.goto (-88), 3) := by decide +kernel
theorem dX6_partVanishes_129 : decode cX6_partVanishes 129 = .ok (.iload_n 3, 1) := by decide +kernel
theorem dX6_partVanishes_130 : decode cX6_partVanishes 130 = .ok (.iload 5, 2) := by decide +kernel
theorem dX6_partVanishes_132 : decode cX6_partVanishes 132 = .ok (.isub, 1) := by decide +kernel
theorem dX6_partVanishes_133 : decode cX6_partVanishes 133 = .ok (.iload_n 3, 1) := by decide +kernel
theorem dX6_partVanishes_134 : decode cX6_partVanishes 134 = .ok (.irem, 1) := by decide +kernel
theorem dX6_partVanishes_135 : decode cX6_partVanishes 135 = .ok (.istore 6, 2) := by decide +kernel
theorem dX6_partVanishes_137 : decode cX6_partVanishes 137 = .ok (.iload 4, 2) := by decide +kernel
theorem dX6_partVanishes_139 : decode cX6_partVanishes 139 = .ok (.iconst 2, 1) := by decide +kernel
theorem dX6_partVanishes_140 : decode cX6_partVanishes 140 = .ok (.if_icmp .gt 23, 3) := by decide +kernel
theorem dX6_partVanishes_143 : decode cX6_partVanishes 143 = .ok (.iload 4, 2) := by decide +kernel
theorem dX6_partVanishes_145 : decode cX6_partVanishes 145 = .ok (.iconst 2, 1) := by decide +kernel
theorem dX6_partVanishes_146 : decode cX6_partVanishes 146 = .ok (.if_icmp .ne 21, 3) := by decide +kernel
theorem dX6_partVanishes_149 : decode cX6_partVanishes 149 = .ok (.getstatic 63, 3) := by decide +kernel
theorem dX6_partVanishes_152 : decode cX6_partVanishes 152 = .ok (.iload_n 1, 1) := by decide +kernel
theorem dX6_partVanishes_153 : decode cX6_partVanishes 153 = .ok (.iaload, 1) := by decide +kernel
theorem dX6_partVanishes_154 : decode cX6_partVanishes 154 = .ok (.iload 6, 2) := by decide +kernel
theorem dX6_partVanishes_156 : decode cX6_partVanishes 156 = .ok (.ishr, 1) := by decide +kernel
theorem dX6_partVanishes_157 : decode cX6_partVanishes 157 = .ok (.iconst 1, 1) := by decide +kernel
theorem dX6_partVanishes_158 : decode cX6_partVanishes 158 = .ok (.iand, 1) := by decide +kernel
theorem dX6_partVanishes_159 : decode cX6_partVanishes 159 = .ok (.iconst 1, 1) := by decide +kernel
theorem dX6_partVanishes_160 : decode cX6_partVanishes 160 = .ok (.if_icmp .ne 7, 3) := by decide +kernel
theorem dX6_partVanishes_163 : decode cX6_partVanishes 163 = .ok (.iconst 1, 1) := by decide +kernel
theorem dX6_partVanishes_164 : decode cX6_partVanishes 164 = .ok (.goto 4, 3) := by decide +kernel
theorem dX6_partVanishes_167 : decode cX6_partVanishes 167 = .ok (.iconst 0, 1) := by decide +kernel
theorem dX6_partVanishes_168 : decode cX6_partVanishes 168 = .ok (.ireturn, 1) := by decide +kernel
set_option maxHeartbeats 4000000 in
set_option maxRecDepth 100000 in
theorem c_X6_partVanishes (l : Launch) (E : fEv) (N : Nat) (a1 : Int32) (a2 : Int32) (σ : fS) (r : Int32) (τ : fS) (hG : g_X6_partVanishes N a1 a2 σ = some (r, τ)) : fM l E yX6_partVanishes (.code yX6_partVanishes cX6_partVanishes 9 (some .boolean)) rm_X6_partVanishes [.ref (E.2.1 16), .int a1, .int a2] σ τ (some (.int r)) := by
  refine f_openZ (by decide) (Nat.le_of_ble_eq_true rfl) ?_
  intro p e s m below meth c args Q F hR hP ls hl
  have hx := F.1.1
  have hb := F.1.2.1
  have hown := F.1.2.2.2.1
  have hts := F.1.2.2.2.2
  have hS : va_S (f_A E) s.heap s.heap [] := va_S.rf
  skip
  have hl : lv_has ls 9 [(0, .ref (E.2.1 16)), (1, .int a1), (2, .int a2)] := hl
  unfold g_X6_partVanishes at hG
  refine lv_iload_n hx hb dX6_partVanishes_0 rfl (lv_at hl 1 rfl) ?_
  refine lv_iconst (v := 2) hx hb dX6_partVanishes_1 (by decide) ?_
  refine lv_icmp_lt (tgt := 21) hx hb dX6_partVanishes_2 (by decide) (fun c2 => ?_) (fun c2 => ?_)
  · have hG := f_ip c2 hG
    refine lv_iconst (v := 0) hx hb dX6_partVanishes_21 (by decide) ?_
    exact x_rz hR hS hP (Or.inl rfl) hG dX6_partVanishes_22
  · have hG := f_in c2 hG
    refine lv_iload_n hx hb dX6_partVanishes_5 rfl (lv_at hl 1 rfl) ?_
    refine x_gnB6 F hS dX6_partVanishes_6 ?_
    refine x_slB F hS dX6_partVanishes_9 ?_
    refine lv_icmp_ge (tgt := 21) hx hb dX6_partVanishes_10 (by decide) (fun c10 => ?_) (fun c10 => ?_)
    · have hG := f_ip c10 hG
      refine lv_iconst (v := 0) hx hb dX6_partVanishes_21 (by decide) ?_
      exact x_rz hR hS hP (Or.inl rfl) hG dX6_partVanishes_22
    · have hG := f_in c10 hG
      refine lv_iload_n hx hb dX6_partVanishes_13 rfl (lv_at hl 1 rfl) ?_
      refine x_gnS6 F hS dX6_partVanishes_14 ?_
      refine x_slS F hS dX6_partVanishes_17 ?_
      refine lv_icmp_lt (tgt := 23) hx hb dX6_partVanishes_18 (by decide) (fun c18 => ?_) (fun c18 => ?_)
      · have hG := f_ip c18 hG
        refine x_gnB6 F hS dX6_partVanishes_23 ?_
        refine lv_iload_n hx hb dX6_partVanishes_26 rfl (lv_at hl 1 rfl) ?_
        obtain ⟨h27, hG⟩ := f_gd hG
        have i27 := f_fin h27
        refine x_sdB F hS i27 dX6_partVanishes_27 ?_
        refine lv_topi (fun v28 e28 => ?_)
        have hG := f_lt hG e28
        refine lv_istore_n (lv' := [(3, .int v28), (0, .ref (E.2.1 16)), (1, .int a1), (2, .int a2)]) hx hb dX6_partVanishes_28 rfl hl (by decide) rfl (fun ls hl => ?_)
        refine lv_iconst (v := 0) hx hb dX6_partVanishes_29 (by decide) ?_
        refine lv_istore (lv' := [(4, .int (0 : Int32)), (3, .int v28), (0, .ref (E.2.1 16)), (1, .int a1), (2, .int a2)]) hx hb dX6_partVanishes_30 hl (by decide) rfl (fun ls hl => ?_)
        refine lv_iconst (v := 1) hx hb dX6_partVanishes_32 (by decide) ?_
        refine lv_istore (lv' := [(5, .int (1 : Int32)), (4, .int (0 : Int32)), (3, .int v28), (0, .ref (E.2.1 16)), (1, .int a1), (2, .int a2)]) hx hb dX6_partVanishes_33 hl (by decide) rfl (fun ls hl => ?_)
        refine lv_iconst (v := 0) hx hb dX6_partVanishes_35 (by decide) ?_
        refine lv_istore (lv' := [(6, .int (0 : Int32)), (5, .int (1 : Int32)), (4, .int (0 : Int32)), (3, .int v28), (0, .ref (E.2.1 16)), (1, .int a1), (2, .int a2)]) hx hb dX6_partVanishes_36 hl (by decide) rfl (fun ls hl => ?_)
        obtain ⟨o38, σl38, hT38, hG⟩ := f_bd hG
        have T38 : ∀ (H : Heap) (locs : List Loc) (ls : Array Slot), f_h E σl38 H → va_S (f_A E) s.heap H locs → lv_has ls 9 [(1, .int a1), (3, .int v28), (4, .int o38.1), (5, .int o38.2)] → W p l e rm_X6_partVanishes s m args below meth c H locs 0 0 Q (F0 m 129 ls []) := by
          intro H locs ls hP hS hl
          refine lv_iload_n hx hb dX6_partVanishes_129 rfl (lv_at hl 1 rfl) ?_
          refine lv_iload hx hb dX6_partVanishes_130 (lv_at hl 3 rfl) ?_
          refine lv_isub hx hb dX6_partVanishes_132 ?_
          refine lv_iload_n hx hb dX6_partVanishes_133 rfl (lv_at hl 1 rfl) ?_
          obtain ⟨h134, hG⟩ := f_gd hG
          refine x_irem F dX6_partVanishes_134 (f_nz h134) ?_
          refine lv_topi (fun v135 e135 => ?_)
          have hG := f_lt hG e135
          refine lv_istore (lv' := [(6, .int v135), (1, .int a1), (3, .int v28), (4, .int o38.1), (5, .int o38.2)]) hx hb dX6_partVanishes_135 hl (by decide) rfl (fun ls hl => ?_)
          refine lv_iload hx hb dX6_partVanishes_137 (lv_at hl 3 rfl) ?_
          refine lv_iconst (v := 2) hx hb dX6_partVanishes_139 (by decide) ?_
          refine lv_icmp_gt (tgt := 163) hx hb dX6_partVanishes_140 (by decide) (fun c140 => ?_) (fun c140 => ?_)
          · have hG := f_ip c140 hG
            refine lv_iconst (v := 1) hx hb dX6_partVanishes_163 (by decide) ?_
            refine lv_goto (tgt := 168) hx hb dX6_partVanishes_164 (by decide) ?_
            exact x_rz hR hS hP (Or.inr rfl) hG dX6_partVanishes_168
          · have hG := f_in c140 hG
            refine lv_iload hx hb dX6_partVanishes_143 (lv_at hl 3 rfl) ?_
            refine lv_iconst (v := 2) hx hb dX6_partVanishes_145 (by decide) ?_
            refine lv_icmp_ne (tgt := 167) hx hb dX6_partVanishes_146 (by decide) (fun c146 => ?_) (fun c146 => ?_)
            · have hG := f_in c146 hG
              refine lv_iconst (v := 0) hx hb dX6_partVanishes_167 (by decide) ?_
              exact x_rz hR hS hP (Or.inl rfl) hG dX6_partVanishes_168
            · have hG := f_ip c146 hG
              refine x_gnS6 F hS dX6_partVanishes_149 ?_
              refine lv_iload_n hx hb dX6_partVanishes_152 rfl (lv_at hl 1 rfl) ?_
              obtain ⟨h153, hG⟩ := f_gd hG
              have i153 := f_fin h153
              refine x_sdS F hS i153 dX6_partVanishes_153 ?_
              refine lv_iload hx hb dX6_partVanishes_154 (lv_at hl 0 rfl) ?_
              refine lv_ishr hx hb dX6_partVanishes_156 ?_
              refine lv_iconst (v := 1) hx hb dX6_partVanishes_157 (by decide) ?_
              refine lv_iand hx hb dX6_partVanishes_158 ?_
              refine lv_iconst (v := 1) hx hb dX6_partVanishes_159 (by decide) ?_
              refine lv_icmp_ne (tgt := 167) hx hb dX6_partVanishes_160 (by decide) (fun c160 => ?_) (fun c160 => ?_)
              · have hG := f_in c160 hG
                refine lv_iconst (v := 0) hx hb dX6_partVanishes_167 (by decide) ?_
                exact x_rz hR hS hP (Or.inl rfl) hG dX6_partVanishes_168
              · have hG := f_ip c160 hG
                refine lv_iconst (v := 1) hx hb dX6_partVanishes_163 (by decide) ?_
                refine lv_goto (tgt := 168) hx hb dX6_partVanishes_164 (by decide) ?_
                exact x_rz hR hS hP (Or.inr rfl) hG dX6_partVanishes_168
        have L38 : ∀ (n38 : Nat) (x38_4 : Int32) (x38_5 : Int32) (x38_6 : Int32) (σh38 : fS) (H : Heap) (locs : List Loc) (ls : Array Slot), f_h E σh38 H → va_S (f_A E) s.heap H locs → lv_has ls 9 [(0, .ref (E.2.1 16)), (1, .int a1), (2, .int a2), (3, .int v28), (4, .int x38_4), (5, .int x38_5), (6, .int x38_6)] → lp_X6_partVanishes_38 N a1 a2 v28 n38 x38_4 x38_5 x38_6 σh38 = some (o38, σl38) → W p l e rm_X6_partVanishes s m args below meth c H locs 0 0 Q (F0 m 38 ls []) := by
          intro n38
          induction n38 with
          | zero =>
            intro x38_4 x38_5 x38_6 σh38 H locs ls hP hS hl hG
            rw [lp_X6_partVanishes_38] at hG
            cases hG
          | succ n38 ih38 =>
            intro x38_4 x38_5 x38_6 σh38 H locs ls hP hS hl hG
            rw [lp_X6_partVanishes_38] at hG
            refine lv_iload hx hb dX6_partVanishes_38 (lv_at hl 6 rfl) ?_
            refine lv_aload_n hx hb dX6_partVanishes_40 rfl (lv_at hl 0 rfl) ?_
            refine gf_X6_15 F hP dX6_partVanishes_41 ?_
            refine lv_icmp_ge (tgt := 129) hx hb dX6_partVanishes_44 (by decide) (fun c44 => ?_) (fun c44 => ?_)
            · have hG := f_ip c44 hG
              cases hG
              exact T38 _ _ _ hP hS (lv_sub hl [1, 3, 4, 5] rfl)
            · have hG := f_in c44 hG
              refine lv_iload hx hb dX6_partVanishes_47 (lv_at hl 6 rfl) ?_
              refine lv_iconst (v := 5) hx hb dX6_partVanishes_49 (by decide) ?_
              refine lv_icmp_ge (tgt := 129) hx hb dX6_partVanishes_50 (by decide) (fun c50 => ?_) (fun c50 => ?_)
              · have hG := f_ip c50 hG
                cases hG
                exact T38 _ _ _ hP hS (lv_sub hl [1, 3, 4, 5] rfl)
              · have hG := f_in c50 hG
                refine lv_aload_n hx hb dX6_partVanishes_53 rfl (lv_at hl 0 rfl) ?_
                refine gf_X6_11 F hP dX6_partVanishes_54 ?_
                refine lv_iload hx hb dX6_partVanishes_57 (lv_at hl 6 rfl) ?_
                obtain ⟨h59, hG⟩ := f_gd hG
                have i59 := f_fin h59
                refine x_iald F hP rfl rfl i59 dX6_partVanishes_59 ?_
                refine lv_topi (fun v60 e60 => ?_)
                have hG := f_lt hG e60
                refine lv_istore (lv' := [(7, .int v60), (0, .ref (E.2.1 16)), (1, .int a1), (2, .int a2), (3, .int v28), (4, .int x38_4), (5, .int x38_5), (6, .int x38_6)]) hx hb dX6_partVanishes_60 hl (by decide) rfl (fun ls hl => ?_)
                refine lv_iload_n hx hb dX6_partVanishes_62 rfl (lv_at hl 3 rfl) ?_
                obtain ⟨o63, σj63, hT63, hG⟩ := f_bd hG
                have T63 : ∀ (H : Heap) (locs : List Loc) (ls : Array Slot), f_h E σj63 H → va_S (f_A E) s.heap H locs → lv_has ls 9 [(0, .ref (E.2.1 16)), (1, .int a1), (2, .int a2), (3, .int v28), (4, .int x38_4), (5, .int x38_5), (6, .int x38_6), (7, .int v60)] → W p l e rm_X6_partVanishes s m args below meth c H locs 0 0 Q (F0 m 93 ls [.int o63]) := by
                  intro H locs ls hP hS hl
                  refine lv_istore (lv' := [(8, .int o63), (0, .ref (E.2.1 16)), (1, .int a1), (2, .int a2), (3, .int v28), (4, .int x38_4), (5, .int x38_5), (6, .int x38_6), (7, .int v60)]) hx hb dX6_partVanishes_93 hl (by decide) rfl (fun ls hl => ?_)
                  refine lv_iload hx hb dX6_partVanishes_95 (lv_at hl 0 rfl) ?_
                  refine lv_if_eq (tgt := 123) hx hb dX6_partVanishes_97 (by decide) (fun c97 => ?_) (fun c97 => ?_)
                  · have hG := f_ip c97 hG
                    refine lv_iinc (v := (x38_6 + (1 : Int32))) (lv' := [(6, .int (x38_6 + (1 : Int32))), (8, .int o63), (0, .ref (E.2.1 16)), (1, .int a1), (2, .int a2), (3, .int v28), (4, .int x38_4), (5, .int x38_5), (7, .int v60)]) hx hb dX6_partVanishes_123 hl (k := 7) rfl (by rfl) (by decide) rfl (fun ls hl => ?_)
                    refine lv_goto (tgt := 38) hx hb dX6_partVanishes_126 (by decide) ?_
                    exact ih38 x38_4 x38_5 (x38_6 + (1 : Int32)) σj63 _ _ _ hP hS (lv_sub hl [2, 3, 4, 5, 6, 7, 0] rfl) hG
                  · have hG := f_in c97 hG
                    refine lv_iinc (v := (x38_4 + (1 : Int32))) (lv' := [(4, .int (x38_4 + (1 : Int32))), (8, .int o63), (0, .ref (E.2.1 16)), (1, .int a1), (2, .int a2), (3, .int v28), (5, .int x38_5), (6, .int x38_6), (7, .int v60)]) hx hb dX6_partVanishes_100 hl (k := 5) rfl (by rfl) (by decide) rfl (fun ls hl => ?_)
                    refine lv_iload hx hb dX6_partVanishes_103 (lv_at hl 6 rfl) ?_
                    refine lv_iload_n hx hb dX6_partVanishes_105 rfl (lv_at hl 4 rfl) ?_
                    refine lv_if_eq (tgt := 116) hx hb dX6_partVanishes_106 (by decide) (fun c106 => ?_) (fun c106 => ?_)
                    · have hG := f_ip c106 hG
                      refine lv_iload hx hb dX6_partVanishes_116 (lv_at hl 8 rfl) ?_
                      refine lv_imul hx hb dX6_partVanishes_118 ?_
                      refine lv_iload_n hx hb dX6_partVanishes_119 rfl (lv_at hl 5 rfl) ?_
                      obtain ⟨h120, hG⟩ := f_gd hG
                      refine x_irem F dX6_partVanishes_120 (f_nz h120) ?_
                      refine lv_topi (fun v121 e121 => ?_)
                      have hG := f_lt hG e121
                      refine lv_istore (lv' := [(5, .int v121), (4, .int (x38_4 + (1 : Int32))), (8, .int o63), (0, .ref (E.2.1 16)), (1, .int a1), (2, .int a2), (3, .int v28), (6, .int x38_6), (7, .int v60)]) hx hb dX6_partVanishes_121 hl (by decide) rfl (fun ls hl => ?_)
                      refine lv_iinc (v := (x38_6 + (1 : Int32))) (lv' := [(6, .int (x38_6 + (1 : Int32))), (5, .int v121), (4, .int (x38_4 + (1 : Int32))), (8, .int o63), (0, .ref (E.2.1 16)), (1, .int a1), (2, .int a2), (3, .int v28), (7, .int v60)]) hx hb dX6_partVanishes_123 hl (k := 7) rfl (by rfl) (by decide) rfl (fun ls hl => ?_)
                      refine lv_goto (tgt := 38) hx hb dX6_partVanishes_126 (by decide) ?_
                      exact ih38 (x38_4 + (1 : Int32)) v121 (x38_6 + (1 : Int32)) σj63 _ _ _ hP hS (lv_sub hl [4, 5, 6, 7, 2, 1, 0] rfl) hG
                    · have hG := f_in c106 hG
                      refine lv_iload hx hb dX6_partVanishes_109 (lv_at hl 8 rfl) ?_
                      refine lv_iload_n hx hb dX6_partVanishes_111 rfl (lv_at hl 5 rfl) ?_
                      obtain ⟨h112, hG⟩ := f_gd hG
                      refine lv_idiv hx hb dX6_partVanishes_112 (f_nz h112) ?_
                      refine lv_goto (tgt := 118) hx hb dX6_partVanishes_113 (by decide) ?_
                      refine lv_imul hx hb dX6_partVanishes_118 ?_
                      refine lv_iload_n hx hb dX6_partVanishes_119 rfl (lv_at hl 5 rfl) ?_
                      obtain ⟨h120, hG⟩ := f_gd hG
                      refine x_irem F dX6_partVanishes_120 (f_nz h120) ?_
                      refine lv_topi (fun v121 e121 => ?_)
                      have hG := f_lt hG e121
                      refine lv_istore (lv' := [(5, .int v121), (4, .int (x38_4 + (1 : Int32))), (8, .int o63), (0, .ref (E.2.1 16)), (1, .int a1), (2, .int a2), (3, .int v28), (6, .int x38_6), (7, .int v60)]) hx hb dX6_partVanishes_121 hl (by decide) rfl (fun ls hl => ?_)
                      refine lv_iinc (v := (x38_6 + (1 : Int32))) (lv' := [(6, .int (x38_6 + (1 : Int32))), (5, .int v121), (4, .int (x38_4 + (1 : Int32))), (8, .int o63), (0, .ref (E.2.1 16)), (1, .int a1), (2, .int a2), (3, .int v28), (7, .int v60)]) hx hb dX6_partVanishes_123 hl (k := 7) rfl (by rfl) (by decide) rfl (fun ls hl => ?_)
                      refine lv_goto (tgt := 38) hx hb dX6_partVanishes_126 (by decide) ?_
                      exact ih38 (x38_4 + (1 : Int32)) v121 (x38_6 + (1 : Int32)) σj63 _ _ _ hP hS (lv_sub hl [4, 5, 6, 7, 2, 1, 0] rfl) hG
                have hG := hT63
                clear hT63
                refine lv_if_eq (tgt := 81) hx hb dX6_partVanishes_63 (by decide) (fun c63 => ?_) (fun c63 => ?_)
                · have hG := f_ip c63 hG
                  refine lv_iload hx hb dX6_partVanishes_81 (lv_at hl 0 rfl) ?_
                  refine lv_iload_n hx hb dX6_partVanishes_83 rfl (lv_at hl 4 rfl) ?_
                  obtain ⟨h84, hG⟩ := f_gd hG
                  refine x_irem F dX6_partVanishes_84 (f_nz h84) ?_
                  refine lv_if_eq (tgt := 92) hx hb dX6_partVanishes_85 (by decide) (fun c85 => ?_) (fun c85 => ?_)
                  · have hG := f_ip c85 hG
                    refine lv_iconst (v := 0) hx hb dX6_partVanishes_92 (by decide) ?_
                    cases hG
                    exact T63 _ _ _ hP hS (lv_sub hl [1, 2, 3, 4, 5, 6, 7, 0] rfl)
                  · have hG := f_in c85 hG
                    refine lv_iconst (v := 1) hx hb dX6_partVanishes_88 (by decide) ?_
                    refine lv_goto (tgt := 93) hx hb dX6_partVanishes_89 (by decide) ?_
                    cases hG
                    exact T63 _ _ _ hP hS (lv_sub hl [1, 2, 3, 4, 5, 6, 7, 0] rfl)
                · have hG := f_in c63 hG
                  refine lv_iload hx hb dX6_partVanishes_66 (lv_at hl 0 rfl) ?_
                  refine lv_iload_n hx hb dX6_partVanishes_68 rfl (lv_at hl 4 rfl) ?_
                  obtain ⟨h69, hG⟩ := f_gd hG
                  refine x_irem F dX6_partVanishes_69 (f_nz h69) ?_
                  refine lv_if_ne (tgt := 77) hx hb dX6_partVanishes_70 (by decide) (fun c70 => ?_) (fun c70 => ?_)
                  · have hG := f_in c70 hG
                    refine lv_iconst (v := 0) hx hb dX6_partVanishes_77 (by decide) ?_
                    refine lv_goto (tgt := 93) hx hb dX6_partVanishes_78 (by decide) ?_
                    cases hG
                    exact T63 _ _ _ hP hS (lv_sub hl [1, 2, 3, 4, 5, 6, 7, 0] rfl)
                  · have hG := f_ip c70 hG
                    refine lv_iconst (v := 1) hx hb dX6_partVanishes_73 (by decide) ?_
                    refine lv_goto (tgt := 93) hx hb dX6_partVanishes_74 (by decide) ?_
                    cases hG
                    exact T63 _ _ _ hP hS (lv_sub hl [1, 2, 3, 4, 5, 6, 7, 0] rfl)
        exact L38 N (0 : Int32) (1 : Int32) (0 : Int32) σ _ _ _ hP hS (lv_sub hl [4, 5, 6, 3, 2, 1, 0] rfl) hT38
      · have hG := f_in c18 hG
        refine lv_iconst (v := 0) hx hb dX6_partVanishes_21 (by decide) ?_
        exact x_rz hR hS hP (Or.inl rfl) hG dX6_partVanishes_22
theorem dX6_bars_0 : decode cX6_bars 0 = .ok (.aload_n 0, 1) := by decide +kernel
theorem dX6_bars_1 : decode cX6_bars 1 = .ok (.invokevirtual 44, 3) := by decide +kernel
theorem dX6_bars_4 : decode cX6_bars 4 = .ok (.ifCond .eq 7, 3) := by decide +kernel
theorem dX6_bars_7 : decode cX6_bars 7 = .ok (.iconst 0, 1) := by decide +kernel
theorem dX6_bars_8 : decode cX6_bars 8 = .ok (.goto 4, 3) := by decide +kernel
theorem dX6_bars_11 : decode cX6_bars 11 = .ok (.iconst 1, 1) := by decide +kernel
theorem dX6_bars_12 : decode cX6_bars 12 = .ok (.istore_n 1, 1) := by decide +kernel
theorem dX6_bars_13 : decode cX6_bars 13 = .ok (.iload_n 1, 1) := by decide +kernel
theorem dX6_bars_14 : decode cX6_bars 14 = .ok (.aload_n 0, 1) := by decide +kernel
theorem dX6_bars_15 : decode cX6_bars 15 = .ok (.invokevirtual 48, 3) := by decide +kernel
theorem dX6_bars_18 : decode cX6_bars 18 = .ok (.ifCond .eq 7, 3) := by decide +kernel
theorem dX6_bars_21 : decode cX6_bars 21 = .ok (.iconst 0, 1) := by decide +kernel
theorem dX6_bars_22 : decode cX6_bars 22 = .ok (.goto 4, 3) := by decide +kernel
theorem dX6_bars_25 : decode cX6_bars 25 = .ok (.iconst 2, 1) := by decide +kernel
theorem dX6_bars_26 : decode cX6_bars 26 = .ok (.ior, 1) := by decide +kernel
theorem dX6_bars_27 : decode cX6_bars 27 = .ok (.istore_n 1, 1) := by decide +kernel
theorem dX6_bars_28 : decode cX6_bars 28 = .ok (.iconst 2, 1) := by decide +kernel
theorem dX6_bars_29 : decode cX6_bars 29 = .ok (.istore_n 2, 1) := by decide +kernel
theorem dX6_bars_30 : decode cX6_bars 30 = .ok (.iload_n 2, 1) := by decide +kernel
theorem dX6_bars_31 : decode cX6_bars 31 = .ok (.getstatic 51, 3) := by decide +kernel
theorem dX6_bars_34 : decode cX6_bars 34 = .ok (.arraylength, 1) := by decide +kernel
theorem dX6_bars_35 : decode cX6_bars 35 = .ok (.if_icmp .ge 37, 3) := by decide +kernel
theorem dX6_bars_38 : decode cX6_bars 38 = .ok (.iload_n 1, 1) := by decide +kernel
theorem dX6_bars_39 : decode cX6_bars 39 = .ok (.aload_n 0, 1) := by decide +kernel
theorem dX6_bars_40 : decode cX6_bars 40 = .ok (.iload_n 2, 1) := by decide +kernel
theorem dX6_bars_41 : decode cX6_bars 41 = .ok (.iconst 0, 1) := by decide +kernel
theorem dX6_bars_42 : decode cX6_bars 42 = .ok (.invokevirtual 54, 3) := by decide +kernel
theorem dX6_bars_45 : decode cX6_bars 45 = .ok (.ifCond .ne 12, 3) := by decide +kernel
theorem dX6_bars_48 : decode cX6_bars 48 = .ok (.aload_n 0, 1) := by decide +kernel
theorem dX6_bars_49 : decode cX6_bars 49 = .ok (.iload_n 2, 1) := by decide +kernel
theorem dX6_bars_50 : decode cX6_bars 50 = .ok (.iconst 1, 1) := by decide +kernel
theorem dX6_bars_51 : decode cX6_bars 51 = .ok (.invokevirtual 54, 3) := by decide +kernel
theorem dX6_bars_54 : decode cX6_bars 54 = .ok (.ifCond .eq 7, 3) := by decide +kernel
theorem dX6_bars_57 : decode cX6_bars 57 = .ok (.iconst 0, 1) := by decide +kernel
theorem dX6_bars_58 : decode cX6_bars 58 = .ok (.goto 6, 3) := by decide +kernel
theorem dX6_bars_61 : decode cX6_bars 61 = .ok (.iconst 1, 1) := by decide +kernel
theorem dX6_bars_62 : decode cX6_bars 62 = .ok (.iload_n 2, 1) := by decide +kernel
theorem dX6_bars_63 : decode cX6_bars 63 = .ok (.ishl, 1) := by decide +kernel
theorem dX6_bars_64 : decode cX6_bars 64 = .ok (.ior, 1) := by decide +kernel
theorem dX6_bars_65 : decode cX6_bars 65 = .ok (.istore_n 1, 1) := by decide +kernel
theorem dX6_bars_66 : decode cX6_bars 66 = .ok (.iinc 2 1, 3) := by decide +kernel
theorem dX6_bars_69 : decode cX6_bars 69 = .ok (.goto (-39), 3) := by decide +kernel
theorem dX6_bars_72 : decode cX6_bars 72 = .ok (.iload_n 1, 1) := by decide +kernel
theorem dX6_bars_73 : decode cX6_bars 73 = .ok (.ireturn, 1) := by decide +kernel
set_option maxHeartbeats 4000000 in
set_option maxRecDepth 100000 in
theorem c_X6_bars (l : Launch) (E : fEv) (N : Nat)  (σ : fS) (r : Int32) (τ : fS) (hG : g_X6_bars N  σ = some (r, τ)) : fM l E yX6_bars (.code yX6_bars cX6_bars 3 (some .int)) rm_X6_bars [.ref (E.2.1 16)] σ τ (some (.int r)) := by
  refine f_openI (by decide) (Nat.le_of_ble_eq_true rfl) ?_
  intro p e s m below meth c args Q F hR hP ls hl
  have hx := F.1.1
  have hb := F.1.2.1
  have hown := F.1.2.2.2.1
  have hts := F.1.2.2.2.2
  have hS : va_S (f_A E) s.heap s.heap [] := va_S.rf
  skip
  have hl : lv_has ls 3 [(0, .ref (E.2.1 16))] := hl
  unfold g_X6_bars at hG
  refine lv_aload_n hx hb dX6_bars_0 rfl (lv_at hl 0 rfl) ?_
  obtain ⟨r1, σ1, hC1, hG⟩ := f_bd hG
  refine iv_X6_44 F hS hP (c_X6_vanishesAtReal l E N σ _ _ hC1) ⟨Nat.le_of_ble_eq_true rfl, Nat.le_of_ble_eq_true rfl⟩ hl.1 (Nat.le_of_ble_eq_true rfl) dX6_bars_1 ⟨Nat.zero_le _, Nat.zero_le _⟩ (fun H locs hP hS => ?_)
  obtain ⟨o4, σj4, hT4, hG⟩ := f_bd hG
  have T4 : ∀ (H : Heap) (locs : List Loc) (ls : Array Slot), f_h E σj4 H → va_S (f_A E) s.heap H locs → lv_has ls 3 [(0, .ref (E.2.1 16))] → W p l e rm_X6_bars s m args below meth c H locs 0 0 Q (F0 m 12 ls [.int o4]) := by
    intro H locs ls hP hS hl
    refine lv_istore_n (lv' := [(1, .int o4), (0, .ref (E.2.1 16))]) hx hb dX6_bars_12 rfl hl (by decide) rfl (fun ls hl => ?_)
    refine lv_iload_n hx hb dX6_bars_13 rfl (lv_at hl 0 rfl) ?_
    refine lv_aload_n hx hb dX6_bars_14 rfl (lv_at hl 1 rfl) ?_
    obtain ⟨r15, σ15, hC15, hG⟩ := f_bd hG
    refine iv_X6_48 F hS hP (c_X6_vanishesAtTwo l E N σj4 _ _ hC15) ⟨Nat.le_of_ble_eq_true rfl, Nat.le_of_ble_eq_true rfl⟩ hl.1 (Nat.le_of_ble_eq_true rfl) dX6_bars_15 ⟨Nat.zero_le _, Nat.zero_le _⟩ (fun H locs hP hS => ?_)
    obtain ⟨o18, σj18, hT18, hG⟩ := f_bd hG
    have T18 : ∀ (H : Heap) (locs : List Loc) (ls : Array Slot), f_h E σj18 H → va_S (f_A E) s.heap H locs → lv_has ls 3 [(0, .ref (E.2.1 16))] → W p l e rm_X6_bars s m args below meth c H locs 0 0 Q (F0 m 26 ls [.int o18, .int o4]) := by
      intro H locs ls hP hS hl
      refine lv_ior hx hb dX6_bars_26 ?_
      refine lv_topi (fun v27 e27 => ?_)
      have hG := f_lt hG e27
      refine lv_istore_n (lv' := [(1, .int v27), (0, .ref (E.2.1 16))]) hx hb dX6_bars_27 rfl hl (by decide) rfl (fun ls hl => ?_)
      refine lv_iconst (v := 2) hx hb dX6_bars_28 (by decide) ?_
      refine lv_istore_n (lv' := [(2, .int (2 : Int32)), (1, .int v27), (0, .ref (E.2.1 16))]) hx hb dX6_bars_29 rfl hl (by decide) rfl (fun ls hl => ?_)
      obtain ⟨o30, σl30, hT30, hG⟩ := f_bd hG
      have T30 : ∀ (H : Heap) (locs : List Loc) (ls : Array Slot), f_h E σl30 H → va_S (f_A E) s.heap H locs → lv_has ls 3 [(1, .int o30)] → W p l e rm_X6_bars s m args below meth c H locs 0 0 Q (F0 m 72 ls []) := by
        intro H locs ls hP hS hl
        refine lv_iload_n hx hb dX6_bars_72 rfl (lv_at hl 0 rfl) ?_
        exact x_ri hR hS hP hG dX6_bars_73
      have L30 : ∀ (n30 : Nat) (x30_1 : Int32) (x30_2 : Int32) (σh30 : fS) (H : Heap) (locs : List Loc) (ls : Array Slot), f_h E σh30 H → va_S (f_A E) s.heap H locs → lv_has ls 3 [(0, .ref (E.2.1 16)), (1, .int x30_1), (2, .int x30_2)] → lp_X6_bars_30 N n30 x30_1 x30_2 σh30 = some (o30, σl30) → W p l e rm_X6_bars s m args below meth c H locs 0 0 Q (F0 m 30 ls []) := by
        intro n30
        induction n30 with
        | zero =>
          intro x30_1 x30_2 σh30 H locs ls hP hS hl hG
          rw [lp_X6_bars_30] at hG
          cases hG
        | succ n30 ih30 =>
          intro x30_1 x30_2 σh30 H locs ls hP hS hl hG
          rw [lp_X6_bars_30] at hG
          refine lv_iload_n hx hb dX6_bars_30 rfl (lv_at hl 2 rfl) ?_
          refine x_gnB6 F hS dX6_bars_31 ?_
          refine x_slB F hS dX6_bars_34 ?_
          refine lv_icmp_ge (tgt := 72) hx hb dX6_bars_35 (by decide) (fun c35 => ?_) (fun c35 => ?_)
          · have hG := f_ip c35 hG
            cases hG
            exact T30 _ _ _ hP hS (lv_sub hl [1] rfl)
          · have hG := f_in c35 hG
            refine lv_iload_n hx hb dX6_bars_38 rfl (lv_at hl 1 rfl) ?_
            refine lv_aload_n hx hb dX6_bars_39 rfl (lv_at hl 0 rfl) ?_
            refine lv_iload_n hx hb dX6_bars_40 rfl (lv_at hl 2 rfl) ?_
            refine lv_iconst (v := 0) hx hb dX6_bars_41 (by decide) ?_
            obtain ⟨r42, σ42, hC42, hG⟩ := f_bd hG
            refine iv_X6_54 F hS hP (c_X6_partVanishes l E N x30_2 (0 : Int32) σh30 _ _ hC42) ⟨Nat.le_of_ble_eq_true rfl, Nat.le_of_ble_eq_true rfl⟩ hl.1 (Nat.le_of_ble_eq_true rfl) dX6_bars_42 ⟨Nat.zero_le _, Nat.zero_le _⟩ (fun H locs hP hS => ?_)
            refine lv_if_ne (tgt := 57) hx hb dX6_bars_45 (by decide) (fun c45 => ?_) (fun c45 => ?_)
            · have hG := f_in c45 hG
              refine lv_iconst (v := 0) hx hb dX6_bars_57 (by decide) ?_
              refine lv_goto (tgt := 64) hx hb dX6_bars_58 (by decide) ?_
              refine lv_ior hx hb dX6_bars_64 ?_
              refine lv_topi (fun v65 e65 => ?_)
              have hG := f_lt hG e65
              refine lv_istore_n (lv' := [(1, .int v65), (0, .ref (E.2.1 16)), (2, .int x30_2)]) hx hb dX6_bars_65 rfl hl (by decide) rfl (fun ls hl => ?_)
              refine lv_iinc (v := (x30_2 + (1 : Int32))) (lv' := [(2, .int (x30_2 + (1 : Int32))), (1, .int v65), (0, .ref (E.2.1 16))]) hx hb dX6_bars_66 hl (k := 2) rfl (by rfl) (by decide) rfl (fun ls hl => ?_)
              refine lv_goto (tgt := 30) hx hb dX6_bars_69 (by decide) ?_
              exact ih30 v65 (x30_2 + (1 : Int32)) σ42 _ _ _ hP hS (lv_sub hl [2, 1, 0] rfl) hG
            · have hG := f_ip c45 hG
              refine lv_aload_n hx hb dX6_bars_48 rfl (lv_at hl 0 rfl) ?_
              refine lv_iload_n hx hb dX6_bars_49 rfl (lv_at hl 2 rfl) ?_
              refine lv_iconst (v := 1) hx hb dX6_bars_50 (by decide) ?_
              obtain ⟨r51, σ51, hC51, hG⟩ := f_bd hG
              refine iv_X6_54 F hS hP (c_X6_partVanishes l E N x30_2 (1 : Int32) σ42 _ _ hC51) ⟨Nat.le_of_ble_eq_true rfl, Nat.le_of_ble_eq_true rfl⟩ hl.1 (Nat.le_of_ble_eq_true rfl) dX6_bars_51 ⟨Nat.zero_le _, Nat.zero_le _⟩ (fun H locs hP hS => ?_)
              refine lv_if_eq (tgt := 61) hx hb dX6_bars_54 (by decide) (fun c54 => ?_) (fun c54 => ?_)
              · have hG := f_ip c54 hG
                refine lv_iconst (v := 1) hx hb dX6_bars_61 (by decide) ?_
                refine lv_iload_n hx hb dX6_bars_62 rfl (lv_at hl 2 rfl) ?_
                refine lv_ishl hx hb dX6_bars_63 ?_
                refine lv_ior hx hb dX6_bars_64 ?_
                refine lv_topi (fun v65 e65 => ?_)
                have hG := f_lt hG e65
                refine lv_istore_n (lv' := [(1, .int v65), (0, .ref (E.2.1 16)), (2, .int x30_2)]) hx hb dX6_bars_65 rfl hl (by decide) rfl (fun ls hl => ?_)
                refine lv_iinc (v := (x30_2 + (1 : Int32))) (lv' := [(2, .int (x30_2 + (1 : Int32))), (1, .int v65), (0, .ref (E.2.1 16))]) hx hb dX6_bars_66 hl (k := 2) rfl (by rfl) (by decide) rfl (fun ls hl => ?_)
                refine lv_goto (tgt := 30) hx hb dX6_bars_69 (by decide) ?_
                exact ih30 v65 (x30_2 + (1 : Int32)) σ51 _ _ _ hP hS (lv_sub hl [2, 1, 0] rfl) hG
              · have hG := f_in c54 hG
                refine lv_iconst (v := 0) hx hb dX6_bars_57 (by decide) ?_
                refine lv_goto (tgt := 64) hx hb dX6_bars_58 (by decide) ?_
                refine lv_ior hx hb dX6_bars_64 ?_
                refine lv_topi (fun v65 e65 => ?_)
                have hG := f_lt hG e65
                refine lv_istore_n (lv' := [(1, .int v65), (0, .ref (E.2.1 16)), (2, .int x30_2)]) hx hb dX6_bars_65 rfl hl (by decide) rfl (fun ls hl => ?_)
                refine lv_iinc (v := (x30_2 + (1 : Int32))) (lv' := [(2, .int (x30_2 + (1 : Int32))), (1, .int v65), (0, .ref (E.2.1 16))]) hx hb dX6_bars_66 hl (k := 2) rfl (by rfl) (by decide) rfl (fun ls hl => ?_)
                refine lv_goto (tgt := 30) hx hb dX6_bars_69 (by decide) ?_
                exact ih30 v65 (x30_2 + (1 : Int32)) σ51 _ _ _ hP hS (lv_sub hl [2, 1, 0] rfl) hG
      exact L30 N v27 (2 : Int32) σj18 _ _ _ hP hS (lv_sub hl [2, 1, 0] rfl) hT30
    have hG := hT18
    clear hT18
    refine lv_if_eq (tgt := 25) hx hb dX6_bars_18 (by decide) (fun c18 => ?_) (fun c18 => ?_)
    · have hG := f_ip c18 hG
      refine lv_iconst (v := 2) hx hb dX6_bars_25 (by decide) ?_
      cases hG
      exact T18 _ _ _ hP hS (lv_sub hl [1] rfl)
    · have hG := f_in c18 hG
      refine lv_iconst (v := 0) hx hb dX6_bars_21 (by decide) ?_
      refine lv_goto (tgt := 26) hx hb dX6_bars_22 (by decide) ?_
      cases hG
      exact T18 _ _ _ hP hS (lv_sub hl [1] rfl)
  have hG := hT4
  clear hT4
  refine lv_if_eq (tgt := 11) hx hb dX6_bars_4 (by decide) (fun c4 => ?_) (fun c4 => ?_)
  · have hG := f_ip c4 hG
    refine lv_iconst (v := 1) hx hb dX6_bars_11 (by decide) ?_
    cases hG
    exact T4 _ _ _ hP hS (lv_sub hl [0] rfl)
  · have hG := f_in c4 hG
    refine lv_iconst (v := 0) hx hb dX6_bars_7 (by decide) ?_
    refine lv_goto (tgt := 12) hx hb dX6_bars_8 (by decide) ?_
    cases hG
    exact T4 _ _ _ hP hS (lv_sub hl [0] rfl)
theorem dX6_symbolBits_0 : decode cX6_symbolBits 0 = .ok (.aload_n 0, 1) := by decide +kernel
theorem dX6_symbolBits_1 : decode cX6_symbolBits 1 = .ok (.invokevirtual 37, 3) := by decide +kernel
theorem dX6_symbolBits_4 : decode cX6_symbolBits 4 = .ok (.aload_n 0, 1) := by decide +kernel
theorem dX6_symbolBits_5 : decode cX6_symbolBits 5 = .ok (.iload_n 1, 1) := by decide +kernel
theorem dX6_symbolBits_6 : decode cX6_symbolBits 6 = .ok (.invokevirtual 33, 3) := by decide +kernel
theorem dX6_symbolBits_9 : decode cX6_symbolBits 9 = .ok (.aload_n 0, 1) := by decide +kernel
theorem dX6_symbolBits_10 : decode cX6_symbolBits 10 = .ok (.iload_n 2, 1) := by decide +kernel
theorem dX6_symbolBits_11 : decode cX6_symbolBits 11 = .ok (.invokevirtual 33, 3) := by decide +kernel
theorem dX6_symbolBits_14 : decode cX6_symbolBits 14 = .ok (.aload_n 0, 1) := by decide +kernel
theorem dX6_symbolBits_15 : decode cX6_symbolBits 15 = .ok (.iconst 1, 1) := by decide +kernel
theorem dX6_symbolBits_16 : decode cX6_symbolBits 16 = .ok (.invokevirtual 33, 3) := by decide +kernel
theorem dX6_symbolBits_19 : decode cX6_symbolBits 19 = .ok (.aload_n 0, 1) := by decide +kernel
theorem dX6_symbolBits_20 : decode cX6_symbolBits 20 = .ok (.invokevirtual 40, 3) := by decide +kernel
theorem dX6_symbolBits_23 : decode cX6_symbolBits 23 = .ok (.ireturn, 1) := by decide +kernel
set_option maxHeartbeats 4000000 in
set_option maxRecDepth 100000 in
theorem c_X6_symbolBits (l : Launch) (E : fEv) (N : Nat) (a1 : Int32) (a2 : Int32) (σ : fS) (r : Int32) (τ : fS) (hG : g_X6_symbolBits N a1 a2 σ = some (r, τ)) : fM l E yX6_symbolBits (.code yX6_symbolBits cX6_symbolBits 3 (some .int)) rm_X6_symbolBits [.ref (E.2.1 16), .int a1, .int a2] σ τ (some (.int r)) := by
  refine f_openI (by decide) (Nat.le_of_ble_eq_true rfl) ?_
  intro p e s m below meth c args Q F hR hP ls hl
  have hx := F.1.1
  have hb := F.1.2.1
  have hown := F.1.2.2.2.1
  have hts := F.1.2.2.2.2
  have hS : va_S (f_A E) s.heap s.heap [] := va_S.rf
  skip
  have hl : lv_has ls 3 [(0, .ref (E.2.1 16)), (1, .int a1), (2, .int a2)] := hl
  unfold g_X6_symbolBits at hG
  refine lv_aload_n hx hb dX6_symbolBits_0 rfl (lv_at hl 0 rfl) ?_
  obtain ⟨σ1, hC1, hG⟩ := f_bv hG
  refine iv_X6_37 F hS hP (c_X6_start l E N σ _ hC1) ⟨Nat.le_of_ble_eq_true rfl, Nat.le_of_ble_eq_true rfl⟩ hl.1 (Nat.le_of_ble_eq_true rfl) dX6_symbolBits_1 ⟨Nat.zero_le _, Nat.zero_le _⟩ (fun H locs hP hS => ?_)
  refine lv_aload_n hx hb dX6_symbolBits_4 rfl (lv_at hl 0 rfl) ?_
  refine lv_iload_n hx hb dX6_symbolBits_5 rfl (lv_at hl 1 rfl) ?_
  obtain ⟨σ6, hC6, hG⟩ := f_bv hG
  refine iv_X6_33 F hS hP (c_X6_add l E N a1 σ1 _ hC6) ⟨Nat.le_of_ble_eq_true rfl, Nat.le_of_ble_eq_true rfl⟩ hl.1 (Nat.le_of_ble_eq_true rfl) dX6_symbolBits_6 ⟨Nat.zero_le _, Nat.zero_le _⟩ (fun H locs hP hS => ?_)
  refine lv_aload_n hx hb dX6_symbolBits_9 rfl (lv_at hl 0 rfl) ?_
  refine lv_iload_n hx hb dX6_symbolBits_10 rfl (lv_at hl 2 rfl) ?_
  obtain ⟨σ11, hC11, hG⟩ := f_bv hG
  refine iv_X6_33 F hS hP (c_X6_add l E N a2 σ6 _ hC11) ⟨Nat.le_of_ble_eq_true rfl, Nat.le_of_ble_eq_true rfl⟩ hl.1 (Nat.le_of_ble_eq_true rfl) dX6_symbolBits_11 ⟨Nat.zero_le _, Nat.zero_le _⟩ (fun H locs hP hS => ?_)
  refine lv_aload_n hx hb dX6_symbolBits_14 rfl (lv_at hl 0 rfl) ?_
  refine lv_iconst (v := 1) hx hb dX6_symbolBits_15 (by decide) ?_
  obtain ⟨σ16, hC16, hG⟩ := f_bv hG
  refine iv_X6_33 F hS hP (c_X6_add l E N (1 : Int32) σ11 _ hC16) ⟨Nat.le_of_ble_eq_true rfl, Nat.le_of_ble_eq_true rfl⟩ hl.1 (Nat.le_of_ble_eq_true rfl) dX6_symbolBits_16 ⟨Nat.zero_le _, Nat.zero_le _⟩ (fun H locs hP hS => ?_)
  refine lv_aload_n hx hb dX6_symbolBits_19 rfl (lv_at hl 0 rfl) ?_
  obtain ⟨r20, σ20, hC20, hG⟩ := f_bd hG
  refine iv_X6_40 F hS hP (c_X6_bars l E N σ16 _ _ hC20) ⟨Nat.le_of_ble_eq_true rfl, Nat.le_of_ble_eq_true rfl⟩ hl.1 (Nat.le_of_ble_eq_true rfl) dX6_symbolBits_20 ⟨Nat.zero_le _, Nat.zero_le _⟩ (fun H locs hP hS => ?_)
  exact x_ri hR hS hP hG dX6_symbolBits_23
theorem dX6_addAll_0 : decode cX6_addAll 0 = .ok (.iconst 0, 1) := by decide +kernel
theorem dX6_addAll_1 : decode cX6_addAll 1 = .ok (.istore_n 2, 1) := by decide +kernel
theorem dX6_addAll_2 : decode cX6_addAll 2 = .ok (.iload_n 2, 1) := by decide +kernel
theorem dX6_addAll_3 : decode cX6_addAll 3 = .ok (.aload_n 1, 1) := by decide +kernel
theorem dX6_addAll_4 : decode cX6_addAll 4 = .ok (.getfield 25, 3) := by decide +kernel
theorem dX6_addAll_7 : decode cX6_addAll 7 = .ok (.if_icmp .ge 18, 3) := by decide +kernel
theorem dX6_addAll_10 : decode cX6_addAll 10 = .ok (.aload_n 0, 1) := by decide +kernel
theorem dX6_addAll_11 : decode cX6_addAll 11 = .ok (.aload_n 1, 1) := by decide +kernel
theorem dX6_addAll_12 : decode cX6_addAll 12 = .ok (.iload_n 2, 1) := by decide +kernel
theorem dX6_addAll_13 : decode cX6_addAll 13 = .ok (.invokevirtual 30, 3) := by decide +kernel
theorem dX6_addAll_16 : decode cX6_addAll 16 = .ok (.invokevirtual 33, 3) := by decide +kernel
theorem dX6_addAll_19 : decode cX6_addAll 19 = .ok (.iinc 2 1, 3) := by decide +kernel
theorem dX6_addAll_22 : decode cX6_addAll 22 = .ok (.goto (-20), 3) := by decide +kernel
theorem dX6_addAll_25 : decode cX6_addAll 25 = .ok (.return_, 1) := by decide +kernel
set_option maxHeartbeats 4000000 in
set_option maxRecDepth 100000 in
theorem c_X6_addAll (l : Launch) (E : fEv) (N : Nat) (k1 : Nat) (hk1 : kd k1 = 0) (σ : fS) (τ : fS) (hG : g_X6_addAll N k1 σ = some τ) : fM l E yX6_addAll (.code yX6_addAll cX6_addAll 3 none) rm_X6_addAll [.ref (E.2.1 16), .ref (E.2.1 k1)] σ τ none := by
  refine f_openV (by decide) (Nat.le_of_ble_eq_true rfl) ?_
  intro p e s m below meth c args Q F hR hP ls hl
  have hx := F.1.1
  have hb := F.1.2.1
  have hown := F.1.2.2.2.1
  have hts := F.1.2.2.2.2
  have hS : va_S (f_A E) s.heap s.heap [] := va_S.rf
  skip
  have hl : lv_has ls 3 [(0, .ref (E.2.1 16)), (1, .ref (E.2.1 k1))] := hl
  unfold g_X6_addAll at hG
  refine lv_iconst (v := 0) hx hb dX6_addAll_0 (by decide) ?_
  refine lv_istore_n (lv' := [(2, .int (0 : Int32)), (0, .ref (E.2.1 16)), (1, .ref (E.2.1 k1))]) hx hb dX6_addAll_1 rfl hl (by decide) rfl (fun ls hl => ?_)
  obtain ⟨σl2, hT2, hG⟩ := f_bv hG
  have T2 : ∀ (H : Heap) (locs : List Loc) (ls : Array Slot), f_h E σl2 H → va_S (f_A E) s.heap H locs → lv_has ls 3 [] → W p l e rm_X6_addAll s m args below meth c H locs 0 0 Q (F0 m 25 ls []) := by
    intro H locs ls hP hS hl
    exact x_rv hR hS hP hG dX6_addAll_25
  have L2 : ∀ (n2 : Nat) (x2_2 : Int32) (σh2 : fS) (H : Heap) (locs : List Loc) (ls : Array Slot), f_h E σh2 H → va_S (f_A E) s.heap H locs → lv_has ls 3 [(0, .ref (E.2.1 16)), (1, .ref (E.2.1 k1)), (2, .int x2_2)] → lp_X6_addAll_2 N k1 n2 x2_2 σh2 = some σl2 → W p l e rm_X6_addAll s m args below meth c H locs 0 0 Q (F0 m 2 ls []) := by
    intro n2
    induction n2 with
    | zero =>
      intro x2_2 σh2 H locs ls hP hS hl hG
      rw [lp_X6_addAll_2] at hG
      cases hG
    | succ n2 ih2 =>
      intro x2_2 σh2 H locs ls hP hS hl hG
      rw [lp_X6_addAll_2] at hG
      refine lv_iload_n hx hb dX6_addAll_2 rfl (lv_at hl 2 rfl) ?_
      refine lv_aload_n hx hb dX6_addAll_3 rfl (lv_at hl 1 rfl) ?_
      refine gf_X6_25 F hP hk1 dX6_addAll_4 ?_
      refine lv_icmp_ge (tgt := 25) hx hb dX6_addAll_7 (by decide) (fun c7 => ?_) (fun c7 => ?_)
      · have hG := f_ip c7 hG
        cases hG
        exact T2 _ _ _ hP hS (lv_sub hl [] rfl)
      · have hG := f_in c7 hG
        refine lv_aload_n hx hb dX6_addAll_10 rfl (lv_at hl 0 rfl) ?_
        refine lv_aload_n hx hb dX6_addAll_11 rfl (lv_at hl 1 rfl) ?_
        refine lv_iload_n hx hb dX6_addAll_12 rfl (lv_at hl 2 rfl) ?_
        obtain ⟨r13, σ13, hC13, hG⟩ := f_bd hG
        refine iv_X6_30 F hS hP hk1 (c_X0_kindAt l E N k1 x2_2 hk1 σh2 _ _ hC13) ⟨Nat.le_of_ble_eq_true rfl, Nat.le_of_ble_eq_true rfl⟩ hl.1 (Nat.le_of_ble_eq_true rfl) dX6_addAll_13 ⟨Nat.zero_le _, Nat.zero_le _⟩ (fun H locs hP hS => ?_)
        obtain ⟨σ16, hC16, hG⟩ := f_bv hG
        refine iv_X6_33 F hS hP (c_X6_add l E N r13 σ13 _ hC16) ⟨Nat.le_of_ble_eq_true rfl, Nat.le_of_ble_eq_true rfl⟩ hl.1 (Nat.le_of_ble_eq_true rfl) dX6_addAll_16 ⟨Nat.zero_le _, Nat.zero_le _⟩ (fun H locs hP hS => ?_)
        refine lv_iinc (v := (x2_2 + (1 : Int32))) (lv' := [(2, .int (x2_2 + (1 : Int32))), (0, .ref (E.2.1 16)), (1, .ref (E.2.1 k1))]) hx hb dX6_addAll_19 hl (k := 2) rfl (by rfl) (by decide) rfl (fun ls hl => ?_)
        refine lv_goto (tgt := 2) hx hb dX6_addAll_22 (by decide) ?_
        exact ih2 (x2_2 + (1 : Int32)) σ16 _ _ _ hP hS (lv_sub hl [1, 2, 0] rfl) hG
  exact L2 N (0 : Int32) σ _ _ _ hP hS (lv_sub hl [1, 2, 0] rfl) hT2
theorem dX0_settle_0 : decode cX0_settle 0 = .ok (.aload_n 0, 1) := by decide +kernel
theorem dX0_settle_1 : decode cX0_settle 1 = .ok (.iconst 0, 1) := by decide +kernel
theorem dX0_settle_2 : decode cX0_settle 2 = .ok (.putfield 19, 3) := by decide +kernel
theorem dX0_settle_5 : decode cX0_settle 5 = .ok (.iconst 1, 1) := by decide +kernel
theorem dX0_settle_6 : decode cX0_settle 6 = .ok (.istore_n 2, 1) := by decide +kernel
theorem dX0_settle_7 : decode cX0_settle 7 = .ok (.iload_n 2, 1) := by decide +kernel
theorem dX0_settle_8 : decode cX0_settle 8 = .ok (.aload_n 0, 1) := by decide +kernel
theorem dX0_settle_9 : decode cX0_settle 9 = .ok (.getfield 15, 3) := by decide +kernel
theorem dX0_settle_12 : decode cX0_settle 12 = .ok (.if_icmp .ge 45, 3) := by decide +kernel
theorem dX0_settle_15 : decode cX0_settle 15 = .ok (.iconst 0, 1) := by decide +kernel
theorem dX0_settle_16 : decode cX0_settle 16 = .ok (.istore_n 3, 1) := by decide +kernel
theorem dX0_settle_17 : decode cX0_settle 17 = .ok (.iload_n 3, 1) := by decide +kernel
theorem dX0_settle_18 : decode cX0_settle 18 = .ok (.iload_n 2, 1) := by decide +kernel
theorem dX0_settle_19 : decode cX0_settle 19 = .ok (.if_icmp .ge 32, 3) := by decide +kernel
theorem dX0_settle_22 : decode cX0_settle 22 = .ok (.aload_n 0, 1) := by decide +kernel
theorem dX0_settle_23 : decode cX0_settle 23 = .ok (.dup, 1) := by decide +kernel
theorem dX0_settle_24 : decode cX0_settle 24 = .ok (.getfield 19, 3) := by decide +kernel
theorem dX0_settle_27 : decode cX0_settle 27 = .ok (.aload_n 1, 1) := by decide +kernel
theorem dX0_settle_28 : decode cX0_settle 28 = .ok (.aload_n 0, 1) := by decide +kernel
theorem dX0_settle_29 : decode cX0_settle 29 = .ok (.iload_n 3, 1) := by decide +kernel
theorem dX0_settle_30 : decode cX0_settle 30 = .ok (.invokevirtual 25, 3) := by decide +kernel
theorem dX0_settle_33 : decode cX0_settle 33 = .ok (.aload_n 0, 1) := by decide +kernel
theorem dX0_settle_34 : decode cX0_settle 34 = .ok (.iload_n 2, 1) := by decide +kernel
theorem dX0_settle_35 : decode cX0_settle 35 = .ok (.invokevirtual 25, 3) := by decide +kernel
theorem dX0_settle_38 : decode cX0_settle 38 = .ok (.invokevirtual 33, 3) := by decide +kernel
theorem dX0_settle_41 : decode cX0_settle 41 = .ok (.ixor, 1) := by decide +kernel
theorem dX0_settle_42 : decode cX0_settle 42 = .ok (.putfield 19, 3) := by decide +kernel
theorem dX0_settle_45 : decode cX0_settle 45 = .ok (.iinc 3 1, 3) := by decide +kernel
theorem dX0_settle_48 : decode cX0_settle 48 = .ok (.goto (-31), 3) := by decide +kernel
theorem dX0_settle_51 : decode cX0_settle 51 = .ok (.iinc 2 1, 3) := by decide +kernel
theorem dX0_settle_54 : decode cX0_settle 54 = .ok (.goto (-47), 3) := by decide +kernel
theorem dX0_settle_57 : decode cX0_settle 57 = .ok (.aload_n 1, 1) := by decide +kernel
theorem dX0_settle_58 : decode cX0_settle 58 = .ok (.invokevirtual 39, 3) := by decide +kernel
theorem dX0_settle_61 : decode cX0_settle 61 = .ok (.aload_n 1, 1) := by decide +kernel
theorem dX0_settle_62 : decode cX0_settle 62 = .ok (.aload_n 0, 1) := by decide +kernel
theorem dX0_settle_63 : decode cX0_settle 63 = .ok (.invokevirtual 42, 3) := by decide +kernel
theorem dX0_settle_66 : decode cX0_settle 66 = .ok (.aload_n 0, 1) := by decide +kernel
theorem dX0_settle_67 : decode cX0_settle 67 = .ok (.aload_n 1, 1) := by decide +kernel
theorem dX0_settle_68 : decode cX0_settle 68 = .ok (.invokevirtual 46, 3) := by decide +kernel
theorem dX0_settle_71 : decode cX0_settle 71 = .ok (.putfield 22, 3) := by decide +kernel
theorem dX0_settle_74 : decode cX0_settle 74 = .ok (.return_, 1) := by decide +kernel
set_option maxHeartbeats 4000000 in
set_option maxRecDepth 100000 in
theorem c_X0_settle (l : Launch) (E : fEv) (N : Nat) (k : Nat) (hk : kd k = 0) (σ : fS) (τ : fS) (hG : g_X0_settle N k σ = some τ) : fM l E yX0_settle (.code yX0_settle cX0_settle 4 none) rm_X0_settle [.ref (E.2.1 k), .ref (E.2.1 16)] σ τ none := by
  refine f_openV (by decide) (Nat.le_of_ble_eq_true rfl) ?_
  intro p e s m below meth c args Q F hR hP ls hl
  have hx := F.1.1
  have hb := F.1.2.1
  have hown := F.1.2.2.2.1
  have hts := F.1.2.2.2.2
  have hS : va_S (f_A E) s.heap s.heap [] := va_S.rf
  skip
  have hl : lv_has ls 4 [(0, .ref (E.2.1 k)), (1, .ref (E.2.1 16))] := hl
  unfold g_X0_settle at hG
  refine lv_aload_n hx hb dX0_settle_0 rfl (lv_at hl 0 rfl) ?_
  refine lv_iconst (v := 0) hx hb dX0_settle_1 (by decide) ?_
  refine pf_X0_19 F hS hP hk dX0_settle_2 (fun H locs hP hS => ?_)
  obtain ⟨σ2, e2⟩ : ∃ t : fS, t = sI σ k 2 (0 : Int32) := ⟨_, rfl⟩
  rw [← e2] at hP
  have hG := f_lt hG e2
  refine lv_iconst (v := 1) hx hb dX0_settle_5 (by decide) ?_
  refine lv_istore_n (lv' := [(2, .int (1 : Int32)), (0, .ref (E.2.1 k)), (1, .ref (E.2.1 16))]) hx hb dX0_settle_6 rfl hl (by decide) rfl (fun ls hl => ?_)
  obtain ⟨σl7, hT7, hG⟩ := f_bv hG
  have T7 : ∀ (H : Heap) (locs : List Loc) (ls : Array Slot), f_h E σl7 H → va_S (f_A E) s.heap H locs → lv_has ls 4 [(0, .ref (E.2.1 k)), (1, .ref (E.2.1 16))] → W p l e rm_X0_settle s m args below meth c H locs 0 0 Q (F0 m 57 ls []) := by
    intro H locs ls hP hS hl
    refine lv_aload_n hx hb dX0_settle_57 rfl (lv_at hl 1 rfl) ?_
    obtain ⟨σ58, hC58, hG⟩ := f_bv hG
    refine iv_X0_39 F hS hP (c_X6_start l E N σl7 _ hC58) ⟨Nat.le_of_ble_eq_true rfl, Nat.le_of_ble_eq_true rfl⟩ hl.1 (Nat.le_of_ble_eq_true rfl) dX0_settle_58 ⟨Nat.zero_le _, Nat.zero_le _⟩ (fun H locs hP hS => ?_)
    refine lv_aload_n hx hb dX0_settle_61 rfl (lv_at hl 1 rfl) ?_
    refine lv_aload_n hx hb dX0_settle_62 rfl (lv_at hl 0 rfl) ?_
    obtain ⟨σ63, hC63, hG⟩ := f_bv hG
    refine iv_X0_42 F hS hP (c_X6_addAll l E N k hk σ58 _ hC63) ⟨Nat.le_of_ble_eq_true rfl, Nat.le_of_ble_eq_true rfl⟩ hl.1 (Nat.le_of_ble_eq_true rfl) dX0_settle_63 ⟨Nat.zero_le _, Nat.zero_le _⟩ (fun H locs hP hS => ?_)
    refine lv_aload_n hx hb dX0_settle_66 rfl (lv_at hl 0 rfl) ?_
    refine lv_aload_n hx hb dX0_settle_67 rfl (lv_at hl 1 rfl) ?_
    obtain ⟨r68, σ68, hC68, hG⟩ := f_bd hG
    refine iv_X0_46 F hS hP (c_X6_bars l E N σ63 _ _ hC68) ⟨Nat.le_of_ble_eq_true rfl, Nat.le_of_ble_eq_true rfl⟩ hl.1 (Nat.le_of_ble_eq_true rfl) dX0_settle_68 ⟨Nat.zero_le _, Nat.zero_le _⟩ (fun H locs hP hS => ?_)
    refine pf_X0_22 F hS hP hk dX0_settle_71 (fun H locs hP hS => ?_)
    obtain ⟨σ71, e71⟩ : ∃ t : fS, t = sI σ68 k 3 r68 := ⟨_, rfl⟩
    rw [← e71] at hP
    have hG := f_lt hG e71
    exact x_rv hR hS hP hG dX0_settle_74
  have L7 : ∀ (n7 : Nat) (x7_2 : Int32) (σh7 : fS) (H : Heap) (locs : List Loc) (ls : Array Slot), f_h E σh7 H → va_S (f_A E) s.heap H locs → lv_has ls 4 [(0, .ref (E.2.1 k)), (1, .ref (E.2.1 16)), (2, .int x7_2)] → lp_X0_settle_7 N k n7 x7_2 σh7 = some σl7 → W p l e rm_X0_settle s m args below meth c H locs 0 0 Q (F0 m 7 ls []) := by
    intro n7
    induction n7 with
    | zero =>
      intro x7_2 σh7 H locs ls hP hS hl hG
      rw [lp_X0_settle_7] at hG
      cases hG
    | succ n7 ih7 =>
      intro x7_2 σh7 H locs ls hP hS hl hG
      rw [lp_X0_settle_7] at hG
      refine lv_iload_n hx hb dX0_settle_7 rfl (lv_at hl 2 rfl) ?_
      refine lv_aload_n hx hb dX0_settle_8 rfl (lv_at hl 0 rfl) ?_
      refine gf_X0_15 F hP hk dX0_settle_9 ?_
      refine lv_icmp_ge (tgt := 57) hx hb dX0_settle_12 (by decide) (fun c12 => ?_) (fun c12 => ?_)
      · have hG := f_ip c12 hG
        cases hG
        exact T7 _ _ _ hP hS (lv_sub hl [0, 1] rfl)
      · have hG := f_in c12 hG
        refine lv_iconst (v := 0) hx hb dX0_settle_15 (by decide) ?_
        refine lv_istore_n (lv' := [(3, .int (0 : Int32)), (0, .ref (E.2.1 k)), (1, .ref (E.2.1 16)), (2, .int x7_2)]) hx hb dX0_settle_16 rfl hl (by decide) rfl (fun ls hl => ?_)
        obtain ⟨σl17, hT17, hG⟩ := f_bv hG
        have T17 : ∀ (H : Heap) (locs : List Loc) (ls : Array Slot), f_h E σl17 H → va_S (f_A E) s.heap H locs → lv_has ls 4 [(0, .ref (E.2.1 k)), (1, .ref (E.2.1 16)), (2, .int x7_2)] → W p l e rm_X0_settle s m args below meth c H locs 0 0 Q (F0 m 51 ls []) := by
          intro H locs ls hP hS hl
          refine lv_iinc (v := (x7_2 + (1 : Int32))) (lv' := [(2, .int (x7_2 + (1 : Int32))), (0, .ref (E.2.1 k)), (1, .ref (E.2.1 16))]) hx hb dX0_settle_51 hl (k := 2) rfl (by rfl) (by decide) rfl (fun ls hl => ?_)
          refine lv_goto (tgt := 7) hx hb dX0_settle_54 (by decide) ?_
          exact ih7 (x7_2 + (1 : Int32)) σl17 _ _ _ hP hS (lv_sub hl [1, 2, 0] rfl) hG
        have L17 : ∀ (n17 : Nat) (x17_3 : Int32) (σh17 : fS) (H : Heap) (locs : List Loc) (ls : Array Slot), f_h E σh17 H → va_S (f_A E) s.heap H locs → lv_has ls 4 [(0, .ref (E.2.1 k)), (1, .ref (E.2.1 16)), (2, .int x7_2), (3, .int x17_3)] → lp_X0_settle_17 N k x7_2 n17 x17_3 σh17 = some σl17 → W p l e rm_X0_settle s m args below meth c H locs 0 0 Q (F0 m 17 ls []) := by
          intro n17
          induction n17 with
          | zero =>
            intro x17_3 σh17 H locs ls hP hS hl hG
            rw [lp_X0_settle_17] at hG
            cases hG
          | succ n17 ih17 =>
            intro x17_3 σh17 H locs ls hP hS hl hG
            rw [lp_X0_settle_17] at hG
            refine lv_iload_n hx hb dX0_settle_17 rfl (lv_at hl 3 rfl) ?_
            refine lv_iload_n hx hb dX0_settle_18 rfl (lv_at hl 2 rfl) ?_
            refine lv_icmp_ge (tgt := 51) hx hb dX0_settle_19 (by decide) (fun c19 => ?_) (fun c19 => ?_)
            · have hG := f_ip c19 hG
              cases hG
              exact T17 _ _ _ hP hS (lv_sub hl [0, 1, 2] rfl)
            · have hG := f_in c19 hG
              refine lv_aload_n hx hb dX0_settle_22 rfl (lv_at hl 0 rfl) ?_
              refine lv_dup hx hb dX0_settle_23 rfl ?_
              refine gf_X0_19 F hP hk dX0_settle_24 ?_
              refine lv_aload_n hx hb dX0_settle_27 rfl (lv_at hl 1 rfl) ?_
              refine lv_aload_n hx hb dX0_settle_28 rfl (lv_at hl 0 rfl) ?_
              refine lv_iload_n hx hb dX0_settle_29 rfl (lv_at hl 3 rfl) ?_
              obtain ⟨r30, σ30, hC30, hG⟩ := f_bd hG
              refine iv_X0_25 F hS hP hk (c_X0_kindAt l E N k x17_3 hk σh17 _ _ hC30) ⟨Nat.le_of_ble_eq_true rfl, Nat.le_of_ble_eq_true rfl⟩ hl.1 (Nat.le_of_ble_eq_true rfl) dX0_settle_30 ⟨Nat.zero_le _, Nat.zero_le _⟩ (fun H locs hP hS => ?_)
              refine lv_aload_n hx hb dX0_settle_33 rfl (lv_at hl 0 rfl) ?_
              refine lv_iload_n hx hb dX0_settle_34 rfl (lv_at hl 2 rfl) ?_
              obtain ⟨r35, σ35, hC35, hG⟩ := f_bd hG
              refine iv_X0_25 F hS hP hk (c_X0_kindAt l E N k x7_2 hk σ30 _ _ hC35) ⟨Nat.le_of_ble_eq_true rfl, Nat.le_of_ble_eq_true rfl⟩ hl.1 (Nat.le_of_ble_eq_true rfl) dX0_settle_35 ⟨Nat.zero_le _, Nat.zero_le _⟩ (fun H locs hP hS => ?_)
              obtain ⟨r38, σ38, hC38, hG⟩ := f_bd hG
              refine iv_X0_33 F hS hP (c_X6_symbolBits l E N r30 r35 σ35 _ _ hC38) ⟨Nat.le_of_ble_eq_true rfl, Nat.le_of_ble_eq_true rfl⟩ hl.1 (Nat.le_of_ble_eq_true rfl) dX0_settle_38 ⟨Nat.zero_le _, Nat.zero_le _⟩ (fun H locs hP hS => ?_)
              refine lv_ixor hx hb dX0_settle_41 ?_
              refine pf_X0_19 F hS hP hk dX0_settle_42 (fun H locs hP hS => ?_)
              obtain ⟨σ42, e42⟩ : ∃ t : fS, t = sI σ38 k 2 ((σh17.1 k 2) ^^^ r38) := ⟨_, rfl⟩
              rw [← e42] at hP
              have hG := f_lt hG e42
              refine lv_iinc (v := (x17_3 + (1 : Int32))) (lv' := [(3, .int (x17_3 + (1 : Int32))), (0, .ref (E.2.1 k)), (1, .ref (E.2.1 16)), (2, .int x7_2)]) hx hb dX0_settle_45 hl (k := 3) rfl (by rfl) (by decide) rfl (fun ls hl => ?_)
              refine lv_goto (tgt := 17) hx hb dX0_settle_48 (by decide) ?_
              exact ih17 (x17_3 + (1 : Int32)) σ42 _ _ _ hP hS (lv_sub hl [1, 2, 3, 0] rfl) hG
        exact L17 N (0 : Int32) σh7 _ _ _ hP hS (lv_sub hl [1, 2, 3, 0] rfl) hT17
  exact L7 N (1 : Int32) σ2 _ _ _ hP hS (lv_sub hl [1, 2, 0] rfl) hT7
theorem dX0_countAbove_0 : decode cX0_countAbove 0 = .ok (.iconst 0, 1) := by decide +kernel
theorem dX0_countAbove_1 : decode cX0_countAbove 1 = .ok (.istore_n 1, 1) := by decide +kernel
theorem dX0_countAbove_2 : decode cX0_countAbove 2 = .ok (.iconst 0, 1) := by decide +kernel
theorem dX0_countAbove_3 : decode cX0_countAbove 3 = .ok (.istore_n 2, 1) := by decide +kernel
theorem dX0_countAbove_4 : decode cX0_countAbove 4 = .ok (.iload_n 2, 1) := by decide +kernel
theorem dX0_countAbove_5 : decode cX0_countAbove 5 = .ok (.aload_n 0, 1) := by decide +kernel
theorem dX0_countAbove_6 : decode cX0_countAbove 6 = .ok (.getfield 15, 3) := by decide +kernel
theorem dX0_countAbove_9 : decode cX0_countAbove 9 = .ok (.if_icmp .ge 27, 3) := by decide +kernel
theorem dX0_countAbove_12 : decode cX0_countAbove 12 = .ok (.iload_n 1, 1) := by decide +kernel
theorem dX0_countAbove_13 : decode cX0_countAbove 13 = .ok (.aload_n 0, 1) := by decide +kernel
theorem dX0_countAbove_14 : decode cX0_countAbove 14 = .ok (.iload_n 2, 1) := by decide +kernel
theorem dX0_countAbove_15 : decode cX0_countAbove 15 = .ok (.invokevirtual 25, 3) := by decide +kernel
theorem dX0_countAbove_18 : decode cX0_countAbove 18 = .ok (.iconst 1, 1) := by decide +kernel
theorem dX0_countAbove_19 : decode cX0_countAbove 19 = .ok (.iand, 1) := by decide +kernel
theorem dX0_countAbove_20 : decode cX0_countAbove 20 = .ok (.ifCond .ne 7, 3) := by decide +kernel
theorem dX0_countAbove_23 : decode cX0_countAbove 23 = .ok (.iconst 1, 1) := by decide +kernel
theorem dX0_countAbove_24 : decode cX0_countAbove 24 = .ok (.goto 4, 3) := by decide +kernel
theorem dX0_countAbove_27 : decode cX0_countAbove 27 = .ok (.iconst 0, 1) := by decide +kernel
theorem dX0_countAbove_28 : decode cX0_countAbove 28 = .ok (.iadd, 1) := by decide +kernel
theorem dX0_countAbove_29 : decode cX0_countAbove 29 = .ok (.istore_n 1, 1) := by decide +kernel
theorem dX0_countAbove_30 : decode cX0_countAbove 30 = .ok (.iinc 2 1, 3) := by decide +kernel
theorem dX0_countAbove_33 : decode cX0_countAbove 33 = .ok (.goto (-29), 3) := by decide +kernel
theorem dX0_countAbove_36 : decode cX0_countAbove 36 = .ok (.iload_n 1, 1) := by decide +kernel
theorem dX0_countAbove_37 : decode cX0_countAbove 37 = .ok (.ireturn, 1) := by decide +kernel
set_option maxHeartbeats 4000000 in
set_option maxRecDepth 100000 in
theorem c_X0_countAbove (l : Launch) (E : fEv) (N : Nat) (k : Nat) (hk : kd k = 0) (σ : fS) (r : Int32) (τ : fS) (hG : g_X0_countAbove N k σ = some (r, τ)) : fM l E yX0_countAbove (.code yX0_countAbove cX0_countAbove 3 (some .int)) rm_X0_countAbove [.ref (E.2.1 k)] σ τ (some (.int r)) := by
  refine f_openI (by decide) (Nat.le_of_ble_eq_true rfl) ?_
  intro p e s m below meth c args Q F hR hP ls hl
  have hx := F.1.1
  have hb := F.1.2.1
  have hown := F.1.2.2.2.1
  have hts := F.1.2.2.2.2
  have hS : va_S (f_A E) s.heap s.heap [] := va_S.rf
  skip
  have hl : lv_has ls 3 [(0, .ref (E.2.1 k))] := hl
  unfold g_X0_countAbove at hG
  refine lv_iconst (v := 0) hx hb dX0_countAbove_0 (by decide) ?_
  refine lv_istore_n (lv' := [(1, .int (0 : Int32)), (0, .ref (E.2.1 k))]) hx hb dX0_countAbove_1 rfl hl (by decide) rfl (fun ls hl => ?_)
  refine lv_iconst (v := 0) hx hb dX0_countAbove_2 (by decide) ?_
  refine lv_istore_n (lv' := [(2, .int (0 : Int32)), (1, .int (0 : Int32)), (0, .ref (E.2.1 k))]) hx hb dX0_countAbove_3 rfl hl (by decide) rfl (fun ls hl => ?_)
  obtain ⟨o4, σl4, hT4, hG⟩ := f_bd hG
  have T4 : ∀ (H : Heap) (locs : List Loc) (ls : Array Slot), f_h E σl4 H → va_S (f_A E) s.heap H locs → lv_has ls 3 [(1, .int o4)] → W p l e rm_X0_countAbove s m args below meth c H locs 0 0 Q (F0 m 36 ls []) := by
    intro H locs ls hP hS hl
    refine lv_iload_n hx hb dX0_countAbove_36 rfl (lv_at hl 0 rfl) ?_
    exact x_ri hR hS hP hG dX0_countAbove_37
  have L4 : ∀ (n4 : Nat) (x4_1 : Int32) (x4_2 : Int32) (σh4 : fS) (H : Heap) (locs : List Loc) (ls : Array Slot), f_h E σh4 H → va_S (f_A E) s.heap H locs → lv_has ls 3 [(0, .ref (E.2.1 k)), (1, .int x4_1), (2, .int x4_2)] → lp_X0_countAbove_4 N k n4 x4_1 x4_2 σh4 = some (o4, σl4) → W p l e rm_X0_countAbove s m args below meth c H locs 0 0 Q (F0 m 4 ls []) := by
    intro n4
    induction n4 with
    | zero =>
      intro x4_1 x4_2 σh4 H locs ls hP hS hl hG
      rw [lp_X0_countAbove_4] at hG
      cases hG
    | succ n4 ih4 =>
      intro x4_1 x4_2 σh4 H locs ls hP hS hl hG
      rw [lp_X0_countAbove_4] at hG
      refine lv_iload_n hx hb dX0_countAbove_4 rfl (lv_at hl 2 rfl) ?_
      refine lv_aload_n hx hb dX0_countAbove_5 rfl (lv_at hl 0 rfl) ?_
      refine gf_X0_15 F hP hk dX0_countAbove_6 ?_
      refine lv_icmp_ge (tgt := 36) hx hb dX0_countAbove_9 (by decide) (fun c9 => ?_) (fun c9 => ?_)
      · have hG := f_ip c9 hG
        cases hG
        exact T4 _ _ _ hP hS (lv_sub hl [1] rfl)
      · have hG := f_in c9 hG
        refine lv_iload_n hx hb dX0_countAbove_12 rfl (lv_at hl 1 rfl) ?_
        refine lv_aload_n hx hb dX0_countAbove_13 rfl (lv_at hl 0 rfl) ?_
        refine lv_iload_n hx hb dX0_countAbove_14 rfl (lv_at hl 2 rfl) ?_
        obtain ⟨r15, σ15, hC15, hG⟩ := f_bd hG
        refine iv_X0_25 F hS hP hk (c_X0_kindAt l E N k x4_2 hk σh4 _ _ hC15) ⟨Nat.le_of_ble_eq_true rfl, Nat.le_of_ble_eq_true rfl⟩ hl.1 (Nat.le_of_ble_eq_true rfl) dX0_countAbove_15 ⟨Nat.zero_le _, Nat.zero_le _⟩ (fun H locs hP hS => ?_)
        refine lv_iconst (v := 1) hx hb dX0_countAbove_18 (by decide) ?_
        refine lv_iand hx hb dX0_countAbove_19 ?_
        refine lv_if_ne (tgt := 27) hx hb dX0_countAbove_20 (by decide) (fun c20 => ?_) (fun c20 => ?_)
        · have hG := f_in c20 hG
          refine lv_iconst (v := 0) hx hb dX0_countAbove_27 (by decide) ?_
          refine lv_iadd hx hb dX0_countAbove_28 ?_
          refine lv_topi (fun v29 e29 => ?_)
          have hG := f_lt hG e29
          refine lv_istore_n (lv' := [(1, .int v29), (0, .ref (E.2.1 k)), (2, .int x4_2)]) hx hb dX0_countAbove_29 rfl hl (by decide) rfl (fun ls hl => ?_)
          refine lv_iinc (v := (x4_2 + (1 : Int32))) (lv' := [(2, .int (x4_2 + (1 : Int32))), (1, .int v29), (0, .ref (E.2.1 k))]) hx hb dX0_countAbove_30 hl (k := 2) rfl (by rfl) (by decide) rfl (fun ls hl => ?_)
          refine lv_goto (tgt := 4) hx hb dX0_countAbove_33 (by decide) ?_
          exact ih4 v29 (x4_2 + (1 : Int32)) σ15 _ _ _ hP hS (lv_sub hl [2, 1, 0] rfl) hG
        · have hG := f_ip c20 hG
          refine lv_iconst (v := 1) hx hb dX0_countAbove_23 (by decide) ?_
          refine lv_goto (tgt := 28) hx hb dX0_countAbove_24 (by decide) ?_
          refine lv_iadd hx hb dX0_countAbove_28 ?_
          refine lv_topi (fun v29 e29 => ?_)
          have hG := f_lt hG e29
          refine lv_istore_n (lv' := [(1, .int v29), (0, .ref (E.2.1 k)), (2, .int x4_2)]) hx hb dX0_countAbove_29 rfl hl (by decide) rfl (fun ls hl => ?_)
          refine lv_iinc (v := (x4_2 + (1 : Int32))) (lv' := [(2, .int (x4_2 + (1 : Int32))), (1, .int v29), (0, .ref (E.2.1 k))]) hx hb dX0_countAbove_30 hl (k := 2) rfl (by rfl) (by decide) rfl (fun ls hl => ?_)
          refine lv_goto (tgt := 4) hx hb dX0_countAbove_33 (by decide) ?_
          exact ih4 v29 (x4_2 + (1 : Int32)) σ15 _ _ _ hP hS (lv_sub hl [2, 1, 0] rfl) hG
  exact L4 N (0 : Int32) (0 : Int32) σ _ _ _ hP hS (lv_sub hl [2, 1, 0] rfl) hT4
theorem dX0_det_0 : decode cX0_det 0 = .ok (.iconst 0, 1) := by decide +kernel
theorem dX0_det_1 : decode cX0_det 1 = .ok (.istore_n 1, 1) := by decide +kernel
theorem dX0_det_2 : decode cX0_det 2 = .ok (.iconst 0, 1) := by decide +kernel
theorem dX0_det_3 : decode cX0_det 3 = .ok (.istore_n 2, 1) := by decide +kernel
theorem dX0_det_4 : decode cX0_det 4 = .ok (.iload_n 2, 1) := by decide +kernel
theorem dX0_det_5 : decode cX0_det 5 = .ok (.aload_n 0, 1) := by decide +kernel
theorem dX0_det_6 : decode cX0_det 6 = .ok (.getfield 15, 3) := by decide +kernel
theorem dX0_det_9 : decode cX0_det 9 = .ok (.if_icmp .ge 17, 3) := by decide +kernel
theorem dX0_det_12 : decode cX0_det 12 = .ok (.iload_n 1, 1) := by decide +kernel
theorem dX0_det_13 : decode cX0_det 13 = .ok (.aload_n 0, 1) := by decide +kernel
theorem dX0_det_14 : decode cX0_det 14 = .ok (.iload_n 2, 1) := by decide +kernel
theorem dX0_det_15 : decode cX0_det 15 = .ok (.invokevirtual 25, 3) := by decide +kernel
theorem dX0_det_18 : decode cX0_det 18 = .ok (.ixor, 1) := by decide +kernel
theorem dX0_det_19 : decode cX0_det 19 = .ok (.istore_n 1, 1) := by decide +kernel
theorem dX0_det_20 : decode cX0_det 20 = .ok (.iinc 2 1, 3) := by decide +kernel
theorem dX0_det_23 : decode cX0_det 23 = .ok (.goto (-19), 3) := by decide +kernel
theorem dX0_det_26 : decode cX0_det 26 = .ok (.iload_n 1, 1) := by decide +kernel
theorem dX0_det_27 : decode cX0_det 27 = .ok (.ireturn, 1) := by decide +kernel
set_option maxHeartbeats 4000000 in
set_option maxRecDepth 100000 in
theorem c_X0_det (l : Launch) (E : fEv) (N : Nat) (k : Nat) (hk : kd k = 0) (σ : fS) (r : Int32) (τ : fS) (hG : g_X0_det N k σ = some (r, τ)) : fM l E yX0_det (.code yX0_det cX0_det 3 (some .int)) rm_X0_det [.ref (E.2.1 k)] σ τ (some (.int r)) := by
  refine f_openI (by decide) (Nat.le_of_ble_eq_true rfl) ?_
  intro p e s m below meth c args Q F hR hP ls hl
  have hx := F.1.1
  have hb := F.1.2.1
  have hown := F.1.2.2.2.1
  have hts := F.1.2.2.2.2
  have hS : va_S (f_A E) s.heap s.heap [] := va_S.rf
  skip
  have hl : lv_has ls 3 [(0, .ref (E.2.1 k))] := hl
  unfold g_X0_det at hG
  refine lv_iconst (v := 0) hx hb dX0_det_0 (by decide) ?_
  refine lv_istore_n (lv' := [(1, .int (0 : Int32)), (0, .ref (E.2.1 k))]) hx hb dX0_det_1 rfl hl (by decide) rfl (fun ls hl => ?_)
  refine lv_iconst (v := 0) hx hb dX0_det_2 (by decide) ?_
  refine lv_istore_n (lv' := [(2, .int (0 : Int32)), (1, .int (0 : Int32)), (0, .ref (E.2.1 k))]) hx hb dX0_det_3 rfl hl (by decide) rfl (fun ls hl => ?_)
  obtain ⟨o4, σl4, hT4, hG⟩ := f_bd hG
  have T4 : ∀ (H : Heap) (locs : List Loc) (ls : Array Slot), f_h E σl4 H → va_S (f_A E) s.heap H locs → lv_has ls 3 [(1, .int o4)] → W p l e rm_X0_det s m args below meth c H locs 0 0 Q (F0 m 26 ls []) := by
    intro H locs ls hP hS hl
    refine lv_iload_n hx hb dX0_det_26 rfl (lv_at hl 0 rfl) ?_
    exact x_ri hR hS hP hG dX0_det_27
  have L4 : ∀ (n4 : Nat) (x4_1 : Int32) (x4_2 : Int32) (σh4 : fS) (H : Heap) (locs : List Loc) (ls : Array Slot), f_h E σh4 H → va_S (f_A E) s.heap H locs → lv_has ls 3 [(0, .ref (E.2.1 k)), (1, .int x4_1), (2, .int x4_2)] → lp_X0_det_4 N k n4 x4_1 x4_2 σh4 = some (o4, σl4) → W p l e rm_X0_det s m args below meth c H locs 0 0 Q (F0 m 4 ls []) := by
    intro n4
    induction n4 with
    | zero =>
      intro x4_1 x4_2 σh4 H locs ls hP hS hl hG
      rw [lp_X0_det_4] at hG
      cases hG
    | succ n4 ih4 =>
      intro x4_1 x4_2 σh4 H locs ls hP hS hl hG
      rw [lp_X0_det_4] at hG
      refine lv_iload_n hx hb dX0_det_4 rfl (lv_at hl 2 rfl) ?_
      refine lv_aload_n hx hb dX0_det_5 rfl (lv_at hl 0 rfl) ?_
      refine gf_X0_15 F hP hk dX0_det_6 ?_
      refine lv_icmp_ge (tgt := 26) hx hb dX0_det_9 (by decide) (fun c9 => ?_) (fun c9 => ?_)
      · have hG := f_ip c9 hG
        cases hG
        exact T4 _ _ _ hP hS (lv_sub hl [1] rfl)
      · have hG := f_in c9 hG
        refine lv_iload_n hx hb dX0_det_12 rfl (lv_at hl 1 rfl) ?_
        refine lv_aload_n hx hb dX0_det_13 rfl (lv_at hl 0 rfl) ?_
        refine lv_iload_n hx hb dX0_det_14 rfl (lv_at hl 2 rfl) ?_
        obtain ⟨r15, σ15, hC15, hG⟩ := f_bd hG
        refine iv_X0_25 F hS hP hk (c_X0_kindAt l E N k x4_2 hk σh4 _ _ hC15) ⟨Nat.le_of_ble_eq_true rfl, Nat.le_of_ble_eq_true rfl⟩ hl.1 (Nat.le_of_ble_eq_true rfl) dX0_det_15 ⟨Nat.zero_le _, Nat.zero_le _⟩ (fun H locs hP hS => ?_)
        refine lv_ixor hx hb dX0_det_18 ?_
        refine lv_topi (fun v19 e19 => ?_)
        have hG := f_lt hG e19
        refine lv_istore_n (lv' := [(1, .int v19), (0, .ref (E.2.1 k)), (2, .int x4_2)]) hx hb dX0_det_19 rfl hl (by decide) rfl (fun ls hl => ?_)
        refine lv_iinc (v := (x4_2 + (1 : Int32))) (lv' := [(2, .int (x4_2 + (1 : Int32))), (1, .int v19), (0, .ref (E.2.1 k))]) hx hb dX0_det_20 hl (k := 2) rfl (by rfl) (by decide) rfl (fun ls hl => ?_)
        refine lv_goto (tgt := 4) hx hb dX0_det_23 (by decide) ?_
        exact ih4 v19 (x4_2 + (1 : Int32)) σ15 _ _ _ hP hS (lv_sub hl [2, 1, 0] rfl) hG
  exact L4 N (0 : Int32) (0 : Int32) σ _ _ _ hP hS (lv_sub hl [2, 1, 0] rfl) hT4
theorem dX0_isLike_0 : decode cX0_isLike 0 = .ok (.aload_n 0, 1) := by decide +kernel
theorem dX0_isLike_1 : decode cX0_isLike 1 = .ok (.getfield 15, 3) := by decide +kernel
theorem dX0_isLike_4 : decode cX0_isLike 4 = .ok (.aload_n 1, 1) := by decide +kernel
theorem dX0_isLike_5 : decode cX0_isLike 5 = .ok (.getfield 15, 3) := by decide +kernel
theorem dX0_isLike_8 : decode cX0_isLike 8 = .ok (.if_icmp .ne 40, 3) := by decide +kernel
theorem dX0_isLike_11 : decode cX0_isLike 11 = .ok (.aload_n 0, 1) := by decide +kernel
theorem dX0_isLike_12 : decode cX0_isLike 12 = .ok (.getfield 19, 3) := by decide +kernel
theorem dX0_isLike_15 : decode cX0_isLike 15 = .ok (.aload_n 1, 1) := by decide +kernel
theorem dX0_isLike_16 : decode cX0_isLike 16 = .ok (.getfield 19, 3) := by decide +kernel
theorem dX0_isLike_19 : decode cX0_isLike 19 = .ok (.if_icmp .ne 29, 3) := by decide +kernel
theorem dX0_isLike_22 : decode cX0_isLike 22 = .ok (.aload_n 0, 1) := by decide +kernel
theorem dX0_isLike_23 : decode cX0_isLike 23 = .ok (.invokevirtual 49, 3) := by decide +kernel
theorem dX0_isLike_26 : decode cX0_isLike 26 = .ok (.aload_n 1, 1) := by decide +kernel
theorem dX0_isLike_27 : decode cX0_isLike 27 = .ok (.invokevirtual 49, 3) := by decide +kernel
theorem dX0_isLike_30 : decode cX0_isLike 30 = .ok (.if_icmp .ne 18, 3) := by decide +kernel
theorem dX0_isLike_33 : decode cX0_isLike 33 = .ok (.aload_n 0, 1) := by decide +kernel
theorem dX0_isLike_34 : decode cX0_isLike 34 = .ok (.invokevirtual 52, 3) := by decide +kernel
theorem dX0_isLike_37 : decode cX0_isLike 37 = .ok (.aload_n 1, 1) := by decide +kernel
theorem dX0_isLike_38 : decode cX0_isLike 38 = .ok (.invokevirtual 52, 3) := by decide +kernel
theorem dX0_isLike_41 : decode cX0_isLike 41 = .ok (.if_icmp .ne 7, 3) := by decide +kernel
theorem dX0_isLike_44 : decode cX0_isLike 44 = .ok (.iconst 1, 1) := by decide +kernel
theorem dX0_isLike_45 : decode cX0_isLike 45 = .ok (.goto 4, 3) := by decide +kernel
theorem dX0_isLike_48 : decode cX0_isLike 48 = .ok (.iconst 0, 1) := by decide +kernel
theorem dX0_isLike_49 : decode cX0_isLike 49 = .ok (.ireturn, 1) := by decide +kernel
set_option maxHeartbeats 4000000 in
set_option maxRecDepth 100000 in
theorem c_X0_isLike (l : Launch) (E : fEv) (N : Nat) (k : Nat) (k1 : Nat) (hk : kd k = 0) (hk1 : kd k1 = 0) (σ : fS) (r : Int32) (τ : fS) (hG : g_X0_isLike N k k1 σ = some (r, τ)) : fM l E yX0_isLike (.code yX0_isLike cX0_isLike 2 (some .boolean)) rm_X0_isLike [.ref (E.2.1 k), .ref (E.2.1 k1)] σ τ (some (.int r)) := by
  refine f_openZ (by decide) (Nat.le_of_ble_eq_true rfl) ?_
  intro p e s m below meth c args Q F hR hP ls hl
  have hx := F.1.1
  have hb := F.1.2.1
  have hown := F.1.2.2.2.1
  have hts := F.1.2.2.2.2
  have hS : va_S (f_A E) s.heap s.heap [] := va_S.rf
  skip
  have hl : lv_has ls 2 [(0, .ref (E.2.1 k)), (1, .ref (E.2.1 k1))] := hl
  unfold g_X0_isLike at hG
  refine lv_aload_n hx hb dX0_isLike_0 rfl (lv_at hl 0 rfl) ?_
  refine gf_X0_15 F hP hk dX0_isLike_1 ?_
  refine lv_aload_n hx hb dX0_isLike_4 rfl (lv_at hl 1 rfl) ?_
  refine gf_X0_15 F hP hk1 dX0_isLike_5 ?_
  refine lv_icmp_ne (tgt := 48) hx hb dX0_isLike_8 (by decide) (fun c8 => ?_) (fun c8 => ?_)
  · have hG := f_in c8 hG
    refine lv_iconst (v := 0) hx hb dX0_isLike_48 (by decide) ?_
    exact x_rz hR hS hP (Or.inl rfl) hG dX0_isLike_49
  · have hG := f_ip c8 hG
    refine lv_aload_n hx hb dX0_isLike_11 rfl (lv_at hl 0 rfl) ?_
    refine gf_X0_19 F hP hk dX0_isLike_12 ?_
    refine lv_aload_n hx hb dX0_isLike_15 rfl (lv_at hl 1 rfl) ?_
    refine gf_X0_19 F hP hk1 dX0_isLike_16 ?_
    refine lv_icmp_ne (tgt := 48) hx hb dX0_isLike_19 (by decide) (fun c19 => ?_) (fun c19 => ?_)
    · have hG := f_in c19 hG
      refine lv_iconst (v := 0) hx hb dX0_isLike_48 (by decide) ?_
      exact x_rz hR hS hP (Or.inl rfl) hG dX0_isLike_49
    · have hG := f_ip c19 hG
      refine lv_aload_n hx hb dX0_isLike_22 rfl (lv_at hl 0 rfl) ?_
      obtain ⟨r23, σ23, hC23, hG⟩ := f_bd hG
      refine iv_X0_49 F hS hP hk (c_X0_det l E N k hk σ _ _ hC23) ⟨Nat.le_of_ble_eq_true rfl, Nat.le_of_ble_eq_true rfl⟩ hl.1 (Nat.le_of_ble_eq_true rfl) dX0_isLike_23 ⟨Nat.zero_le _, Nat.zero_le _⟩ (fun H locs hP hS => ?_)
      refine lv_aload_n hx hb dX0_isLike_26 rfl (lv_at hl 1 rfl) ?_
      obtain ⟨r27, σ27, hC27, hG⟩ := f_bd hG
      refine iv_X0_49 F hS hP hk1 (c_X0_det l E N k1 hk1 σ23 _ _ hC27) ⟨Nat.le_of_ble_eq_true rfl, Nat.le_of_ble_eq_true rfl⟩ hl.1 (Nat.le_of_ble_eq_true rfl) dX0_isLike_27 ⟨Nat.zero_le _, Nat.zero_le _⟩ (fun H locs hP hS => ?_)
      refine lv_icmp_ne (tgt := 48) hx hb dX0_isLike_30 (by decide) (fun c30 => ?_) (fun c30 => ?_)
      · have hG := f_in c30 hG
        refine lv_iconst (v := 0) hx hb dX0_isLike_48 (by decide) ?_
        exact x_rz hR hS hP (Or.inl rfl) hG dX0_isLike_49
      · have hG := f_ip c30 hG
        refine lv_aload_n hx hb dX0_isLike_33 rfl (lv_at hl 0 rfl) ?_
        obtain ⟨r34, σ34, hC34, hG⟩ := f_bd hG
        refine iv_X0_52 F hS hP hk (c_X0_countAbove l E N k hk σ27 _ _ hC34) ⟨Nat.le_of_ble_eq_true rfl, Nat.le_of_ble_eq_true rfl⟩ hl.1 (Nat.le_of_ble_eq_true rfl) dX0_isLike_34 ⟨Nat.zero_le _, Nat.zero_le _⟩ (fun H locs hP hS => ?_)
        refine lv_aload_n hx hb dX0_isLike_37 rfl (lv_at hl 1 rfl) ?_
        obtain ⟨r38, σ38, hC38, hG⟩ := f_bd hG
        refine iv_X0_52 F hS hP hk1 (c_X0_countAbove l E N k1 hk1 σ34 _ _ hC38) ⟨Nat.le_of_ble_eq_true rfl, Nat.le_of_ble_eq_true rfl⟩ hl.1 (Nat.le_of_ble_eq_true rfl) dX0_isLike_38 ⟨Nat.zero_le _, Nat.zero_le _⟩ (fun H locs hP hS => ?_)
        refine lv_icmp_ne (tgt := 48) hx hb dX0_isLike_41 (by decide) (fun c41 => ?_) (fun c41 => ?_)
        · have hG := f_in c41 hG
          refine lv_iconst (v := 0) hx hb dX0_isLike_48 (by decide) ?_
          exact x_rz hR hS hP (Or.inl rfl) hG dX0_isLike_49
        · have hG := f_ip c41 hG
          refine lv_iconst (v := 1) hx hb dX0_isLike_44 (by decide) ?_
          refine lv_goto (tgt := 49) hx hb dX0_isLike_45 (by decide) ?_
          exact x_rz hR hS hP (Or.inr rfl) hG dX0_isLike_49
theorem dX0_planes_0 : decode cX0_planes 0 = .ok (.aload_n 0, 1) := by decide +kernel
theorem dX0_planes_1 : decode cX0_planes 1 = .ok (.getfield 22, 3) := by decide +kernel
theorem dX0_planes_4 : decode cX0_planes 4 = .ok (.ifCond .eq 5, 3) := by decide +kernel
theorem dX0_planes_7 : decode cX0_planes 7 = .ok (.iconst 0, 1) := by decide +kernel
theorem dX0_planes_8 : decode cX0_planes 8 = .ok (.ireturn, 1) := by decide +kernel
theorem dX0_planes_9 : decode cX0_planes 9 = .ok (.aload_n 0, 1) := by decide +kernel
theorem dX0_planes_10 : decode cX0_planes 10 = .ok (.getfield 15, 3) := by decide +kernel
theorem dX0_planes_13 : decode cX0_planes 13 = .ok (.iconst 4, 1) := by decide +kernel
theorem dX0_planes_14 : decode cX0_planes 14 = .ok (.if_icmp .ne 14, 3) := by decide +kernel
theorem dX0_planes_17 : decode cX0_planes 17 = .ok (.aload_n 0, 1) := by decide +kernel
theorem dX0_planes_18 : decode cX0_planes 18 = .ok (.invokevirtual 49, 3) := by decide +kernel
theorem dX0_planes_21 : decode cX0_planes 21 = .ok (.ifCond .ne 7, 3) := by decide +kernel
theorem dX0_planes_24 : decode cX0_planes 24 = .ok (.iconst 2, 1) := by decide +kernel
theorem dX0_planes_25 : decode cX0_planes 25 = .ok (.goto 4, 3) := by decide +kernel
theorem dX0_planes_28 : decode cX0_planes 28 = .ok (.iconst 1, 1) := by decide +kernel
theorem dX0_planes_29 : decode cX0_planes 29 = .ok (.ireturn, 1) := by decide +kernel
set_option maxHeartbeats 4000000 in
set_option maxRecDepth 100000 in
theorem c_X0_planes (l : Launch) (E : fEv) (N : Nat) (k : Nat) (hk : kd k = 0) (σ : fS) (r : Int32) (τ : fS) (hG : g_X0_planes N k σ = some (r, τ)) : fM l E yX0_planes (.code yX0_planes cX0_planes 1 (some .int)) rm_X0_planes [.ref (E.2.1 k)] σ τ (some (.int r)) := by
  refine f_openI (by decide) (Nat.le_of_ble_eq_true rfl) ?_
  intro p e s m below meth c args Q F hR hP ls hl
  have hx := F.1.1
  have hb := F.1.2.1
  have hown := F.1.2.2.2.1
  have hts := F.1.2.2.2.2
  have hS : va_S (f_A E) s.heap s.heap [] := va_S.rf
  skip
  have hl : lv_has ls 1 [(0, .ref (E.2.1 k))] := hl
  unfold g_X0_planes at hG
  refine lv_aload_n hx hb dX0_planes_0 rfl (lv_at hl 0 rfl) ?_
  refine gf_X0_22 F hP hk dX0_planes_1 ?_
  refine lv_if_eq (tgt := 9) hx hb dX0_planes_4 (by decide) (fun c4 => ?_) (fun c4 => ?_)
  · have hG := f_ip c4 hG
    refine lv_aload_n hx hb dX0_planes_9 rfl (lv_at hl 0 rfl) ?_
    refine gf_X0_15 F hP hk dX0_planes_10 ?_
    refine lv_iconst (v := 4) hx hb dX0_planes_13 (by decide) ?_
    refine lv_icmp_ne (tgt := 28) hx hb dX0_planes_14 (by decide) (fun c14 => ?_) (fun c14 => ?_)
    · have hG := f_in c14 hG
      refine lv_iconst (v := 1) hx hb dX0_planes_28 (by decide) ?_
      exact x_ri hR hS hP hG dX0_planes_29
    · have hG := f_ip c14 hG
      refine lv_aload_n hx hb dX0_planes_17 rfl (lv_at hl 0 rfl) ?_
      obtain ⟨r18, σ18, hC18, hG⟩ := f_bd hG
      refine iv_X0_49 F hS hP hk (c_X0_det l E N k hk σ _ _ hC18) ⟨Nat.le_of_ble_eq_true rfl, Nat.le_of_ble_eq_true rfl⟩ hl.1 (Nat.le_of_ble_eq_true rfl) dX0_planes_18 ⟨Nat.zero_le _, Nat.zero_le _⟩ (fun H locs hP hS => ?_)
      refine lv_if_ne (tgt := 28) hx hb dX0_planes_21 (by decide) (fun c21 => ?_) (fun c21 => ?_)
      · have hG := f_in c21 hG
        refine lv_iconst (v := 1) hx hb dX0_planes_28 (by decide) ?_
        exact x_ri hR hS hP hG dX0_planes_29
      · have hG := f_ip c21 hG
        refine lv_iconst (v := 2) hx hb dX0_planes_24 (by decide) ?_
        refine lv_goto (tgt := 29) hx hb dX0_planes_25 (by decide) ?_
        exact x_ri hR hS hP hG dX0_planes_29
  · have hG := f_in c4 hG
    refine lv_iconst (v := 0) hx hb dX0_planes_7 (by decide) ?_
    exact x_ri hR hS hP hG dX0_planes_8
theorem dX0_restDet_0 : decode cX0_restDet 0 = .ok (.aload_n 0, 1) := by decide +kernel
theorem dX0_restDet_1 : decode cX0_restDet 1 = .ok (.invokevirtual 55, 3) := by decide +kernel
theorem dX0_restDet_4 : decode cX0_restDet 4 = .ok (.iconst 1, 1) := by decide +kernel
theorem dX0_restDet_5 : decode cX0_restDet 5 = .ok (.if_icmp .ne 12, 3) := by decide +kernel
theorem dX0_restDet_8 : decode cX0_restDet 8 = .ok (.aload_n 0, 1) := by decide +kernel
theorem dX0_restDet_9 : decode cX0_restDet 9 = .ok (.invokevirtual 49, 3) := by decide +kernel
theorem dX0_restDet_12 : decode cX0_restDet 12 = .ok (.iconst 1, 1) := by decide +kernel
theorem dX0_restDet_13 : decode cX0_restDet 13 = .ok (.ixor, 1) := by decide +kernel
theorem dX0_restDet_14 : decode cX0_restDet 14 = .ok (.goto 7, 3) := by decide +kernel
theorem dX0_restDet_17 : decode cX0_restDet 17 = .ok (.aload_n 0, 1) := by decide +kernel
theorem dX0_restDet_18 : decode cX0_restDet 18 = .ok (.invokevirtual 49, 3) := by decide +kernel
theorem dX0_restDet_21 : decode cX0_restDet 21 = .ok (.ireturn, 1) := by decide +kernel
set_option maxHeartbeats 4000000 in
set_option maxRecDepth 100000 in
theorem c_X0_restDet (l : Launch) (E : fEv) (N : Nat) (k : Nat) (hk : kd k = 0) (σ : fS) (r : Int32) (τ : fS) (hG : g_X0_restDet N k σ = some (r, τ)) : fM l E yX0_restDet (.code yX0_restDet cX0_restDet 1 (some .int)) rm_X0_restDet [.ref (E.2.1 k)] σ τ (some (.int r)) := by
  refine f_openI (by decide) (Nat.le_of_ble_eq_true rfl) ?_
  intro p e s m below meth c args Q F hR hP ls hl
  have hx := F.1.1
  have hb := F.1.2.1
  have hown := F.1.2.2.2.1
  have hts := F.1.2.2.2.2
  have hS : va_S (f_A E) s.heap s.heap [] := va_S.rf
  skip
  have hl : lv_has ls 1 [(0, .ref (E.2.1 k))] := hl
  unfold g_X0_restDet at hG
  refine lv_aload_n hx hb dX0_restDet_0 rfl (lv_at hl 0 rfl) ?_
  obtain ⟨r1, σ1, hC1, hG⟩ := f_bd hG
  refine iv_X0_55 F hS hP hk (c_X0_planes l E N k hk σ _ _ hC1) ⟨Nat.le_of_ble_eq_true rfl, Nat.le_of_ble_eq_true rfl⟩ hl.1 (Nat.le_of_ble_eq_true rfl) dX0_restDet_1 ⟨Nat.zero_le _, Nat.zero_le _⟩ (fun H locs hP hS => ?_)
  refine lv_iconst (v := 1) hx hb dX0_restDet_4 (by decide) ?_
  refine lv_icmp_ne (tgt := 17) hx hb dX0_restDet_5 (by decide) (fun c5 => ?_) (fun c5 => ?_)
  · have hG := f_in c5 hG
    refine lv_aload_n hx hb dX0_restDet_17 rfl (lv_at hl 0 rfl) ?_
    obtain ⟨r18, σ18, hC18, hG⟩ := f_bd hG
    refine iv_X0_49 F hS hP hk (c_X0_det l E N k hk σ1 _ _ hC18) ⟨Nat.le_of_ble_eq_true rfl, Nat.le_of_ble_eq_true rfl⟩ hl.1 (Nat.le_of_ble_eq_true rfl) dX0_restDet_18 ⟨Nat.zero_le _, Nat.zero_le _⟩ (fun H locs hP hS => ?_)
    exact x_ri hR hS hP hG dX0_restDet_21
  · have hG := f_ip c5 hG
    refine lv_aload_n hx hb dX0_restDet_8 rfl (lv_at hl 0 rfl) ?_
    obtain ⟨r9, σ9, hC9, hG⟩ := f_bd hG
    refine iv_X0_49 F hS hP hk (c_X0_det l E N k hk σ1 _ _ hC9) ⟨Nat.le_of_ble_eq_true rfl, Nat.le_of_ble_eq_true rfl⟩ hl.1 (Nat.le_of_ble_eq_true rfl) dX0_restDet_9 ⟨Nat.zero_le _, Nat.zero_le _⟩ (fun H locs hP hS => ?_)
    refine lv_iconst (v := 1) hx hb dX0_restDet_12 (by decide) ?_
    refine lv_ixor hx hb dX0_restDet_13 ?_
    refine lv_goto (tgt := 21) hx hb dX0_restDet_14 (by decide) ?_
    exact x_ri hR hS hP hG dX0_restDet_21
theorem dX0_restHasse_0 : decode cX0_restHasse 0 = .ok (.aload_n 0, 1) := by decide +kernel
theorem dX0_restHasse_1 : decode cX0_restHasse 1 = .ok (.invokevirtual 55, 3) := by decide +kernel
theorem dX0_restHasse_4 : decode cX0_restHasse 4 = .ok (.istore_n 2, 1) := by decide +kernel
theorem dX0_restHasse_5 : decode cX0_restHasse 5 = .ok (.iload_n 2, 1) := by decide +kernel
theorem dX0_restHasse_6 : decode cX0_restHasse 6 = .ok (.ifCond .ne 8, 3) := by decide +kernel
theorem dX0_restHasse_9 : decode cX0_restHasse 9 = .ok (.aload_n 0, 1) := by decide +kernel
theorem dX0_restHasse_10 : decode cX0_restHasse 10 = .ok (.getfield 19, 3) := by decide +kernel
theorem dX0_restHasse_13 : decode cX0_restHasse 13 = .ok (.ireturn, 1) := by decide +kernel
theorem dX0_restHasse_14 : decode cX0_restHasse 14 = .ok (.aload_n 0, 1) := by decide +kernel
theorem dX0_restHasse_15 : decode cX0_restHasse 15 = .ok (.getfield 15, 3) := by decide +kernel
theorem dX0_restHasse_18 : decode cX0_restHasse 18 = .ok (.iconst 2, 1) := by decide +kernel
theorem dX0_restHasse_19 : decode cX0_restHasse 19 = .ok (.iload_n 2, 1) := by decide +kernel
theorem dX0_restHasse_20 : decode cX0_restHasse 20 = .ok (.imul, 1) := by decide +kernel
theorem dX0_restHasse_21 : decode cX0_restHasse 21 = .ok (.if_icmp .ne 7, 3) := by decide +kernel
theorem dX0_restHasse_24 : decode cX0_restHasse 24 = .ok (.iconst 0, 1) := by decide +kernel
theorem dX0_restHasse_25 : decode cX0_restHasse 25 = .ok (.goto 17, 3) := by decide +kernel
theorem dX0_restHasse_28 : decode cX0_restHasse 28 = .ok (.aload_n 0, 1) := by decide +kernel
theorem dX0_restHasse_29 : decode cX0_restHasse 29 = .ok (.getfield 19, 3) := by decide +kernel
theorem dX0_restHasse_32 : decode cX0_restHasse 32 = .ok (.aload_n 1, 1) := by decide +kernel
theorem dX0_restHasse_33 : decode cX0_restHasse 33 = .ok (.iconst 1, 1) := by decide +kernel
theorem dX0_restHasse_34 : decode cX0_restHasse 34 = .ok (.aload_n 0, 1) := by decide +kernel
theorem dX0_restHasse_35 : decode cX0_restHasse 35 = .ok (.invokevirtual 58, 3) := by decide +kernel
theorem dX0_restHasse_38 : decode cX0_restHasse 38 = .ok (.invokevirtual 33, 3) := by decide +kernel
theorem dX0_restHasse_41 : decode cX0_restHasse 41 = .ok (.ixor, 1) := by decide +kernel
theorem dX0_restHasse_42 : decode cX0_restHasse 42 = .ok (.ireturn, 1) := by decide +kernel
set_option maxHeartbeats 4000000 in
set_option maxRecDepth 100000 in
theorem c_X0_restHasse (l : Launch) (E : fEv) (N : Nat) (k : Nat) (hk : kd k = 0) (σ : fS) (r : Int32) (τ : fS) (hG : g_X0_restHasse N k σ = some (r, τ)) : fM l E yX0_restHasse (.code yX0_restHasse cX0_restHasse 3 (some .int)) rm_X0_restHasse [.ref (E.2.1 k), .ref (E.2.1 16)] σ τ (some (.int r)) := by
  refine f_openI (by decide) (Nat.le_of_ble_eq_true rfl) ?_
  intro p e s m below meth c args Q F hR hP ls hl
  have hx := F.1.1
  have hb := F.1.2.1
  have hown := F.1.2.2.2.1
  have hts := F.1.2.2.2.2
  have hS : va_S (f_A E) s.heap s.heap [] := va_S.rf
  skip
  have hl : lv_has ls 3 [(0, .ref (E.2.1 k)), (1, .ref (E.2.1 16))] := hl
  unfold g_X0_restHasse at hG
  refine lv_aload_n hx hb dX0_restHasse_0 rfl (lv_at hl 0 rfl) ?_
  obtain ⟨r1, σ1, hC1, hG⟩ := f_bd hG
  refine iv_X0_55 F hS hP hk (c_X0_planes l E N k hk σ _ _ hC1) ⟨Nat.le_of_ble_eq_true rfl, Nat.le_of_ble_eq_true rfl⟩ hl.1 (Nat.le_of_ble_eq_true rfl) dX0_restHasse_1 ⟨Nat.zero_le _, Nat.zero_le _⟩ (fun H locs hP hS => ?_)
  refine lv_istore_n (lv' := [(2, .int r1), (0, .ref (E.2.1 k)), (1, .ref (E.2.1 16))]) hx hb dX0_restHasse_4 rfl hl (by decide) rfl (fun ls hl => ?_)
  refine lv_iload_n hx hb dX0_restHasse_5 rfl (lv_at hl 0 rfl) ?_
  refine lv_if_ne (tgt := 14) hx hb dX0_restHasse_6 (by decide) (fun c6 => ?_) (fun c6 => ?_)
  · have hG := f_in c6 hG
    refine lv_aload_n hx hb dX0_restHasse_14 rfl (lv_at hl 1 rfl) ?_
    refine gf_X0_15 F hP hk dX0_restHasse_15 ?_
    refine lv_iconst (v := 2) hx hb dX0_restHasse_18 (by decide) ?_
    refine lv_iload_n hx hb dX0_restHasse_19 rfl (lv_at hl 0 rfl) ?_
    refine lv_imul hx hb dX0_restHasse_20 ?_
    refine lv_icmp_ne (tgt := 28) hx hb dX0_restHasse_21 (by decide) (fun c21 => ?_) (fun c21 => ?_)
    · have hG := f_in c21 hG
      refine lv_aload_n hx hb dX0_restHasse_28 rfl (lv_at hl 1 rfl) ?_
      refine gf_X0_19 F hP hk dX0_restHasse_29 ?_
      refine lv_aload_n hx hb dX0_restHasse_32 rfl (lv_at hl 2 rfl) ?_
      refine lv_iconst (v := 1) hx hb dX0_restHasse_33 (by decide) ?_
      refine lv_aload_n hx hb dX0_restHasse_34 rfl (lv_at hl 1 rfl) ?_
      obtain ⟨r35, σ35, hC35, hG⟩ := f_bd hG
      refine iv_X0_58 F hS hP hk (c_X0_restDet l E N k hk σ1 _ _ hC35) ⟨Nat.le_of_ble_eq_true rfl, Nat.le_of_ble_eq_true rfl⟩ hl.1 (Nat.le_of_ble_eq_true rfl) dX0_restHasse_35 ⟨Nat.zero_le _, Nat.zero_le _⟩ (fun H locs hP hS => ?_)
      obtain ⟨r38, σ38, hC38, hG⟩ := f_bd hG
      refine iv_X0_33 F hS hP (c_X6_symbolBits l E N (1 : Int32) r35 σ35 _ _ hC38) ⟨Nat.le_of_ble_eq_true rfl, Nat.le_of_ble_eq_true rfl⟩ hl.1 (Nat.le_of_ble_eq_true rfl) dX0_restHasse_38 ⟨Nat.zero_le _, Nat.zero_le _⟩ (fun H locs hP hS => ?_)
      refine lv_ixor hx hb dX0_restHasse_41 ?_
      exact x_ri hR hS hP hG dX0_restHasse_42
    · have hG := f_ip c21 hG
      refine lv_iconst (v := 0) hx hb dX0_restHasse_24 (by decide) ?_
      refine lv_goto (tgt := 42) hx hb dX0_restHasse_25 (by decide) ?_
      exact x_ri hR hS hP hG dX0_restHasse_42
  · have hG := f_ip c6 hG
    refine lv_aload_n hx hb dX0_restHasse_9 rfl (lv_at hl 1 rfl) ?_
    refine gf_X0_19 F hP hk dX0_restHasse_10 ?_
    exact x_ri hR hS hP hG dX0_restHasse_13
theorem dX2_rootOf_0 : decode cX2_rootOf 0 = .ok (.iconst 0, 1) := by decide +kernel
theorem dX2_rootOf_1 : decode cX2_rootOf 1 = .ok (.istore_n 1, 1) := by decide +kernel
theorem dX2_rootOf_2 : decode cX2_rootOf 2 = .ok (.bipush 14, 2) := by decide +kernel
theorem dX2_rootOf_4 : decode cX2_rootOf 4 = .ok (.istore_n 2, 1) := by decide +kernel
theorem dX2_rootOf_5 : decode cX2_rootOf 5 = .ok (.iload_n 2, 1) := by decide +kernel
theorem dX2_rootOf_6 : decode cX2_rootOf 6 = .ok (.ifCond .lt 24, 3) := by decide +kernel
theorem dX2_rootOf_9 : decode cX2_rootOf 9 = .ok (.iload_n 1, 1) := by decide +kernel
theorem dX2_rootOf_10 : decode cX2_rootOf 10 = .ok (.iconst 1, 1) := by decide +kernel
theorem dX2_rootOf_11 : decode cX2_rootOf 11 = .ok (.iload_n 2, 1) := by decide +kernel
theorem dX2_rootOf_12 : decode cX2_rootOf 12 = .ok (.ishl, 1) := by decide +kernel
theorem dX2_rootOf_13 : decode cX2_rootOf 13 = .ok (.ior, 1) := by decide +kernel
theorem dX2_rootOf_14 : decode cX2_rootOf 14 = .ok (.istore_n 3, 1) := by decide +kernel
theorem dX2_rootOf_15 : decode cX2_rootOf 15 = .ok (.iload_n 3, 1) := by decide +kernel
theorem dX2_rootOf_16 : decode cX2_rootOf 16 = .ok (.iload_n 3, 1) := by decide +kernel
theorem dX2_rootOf_17 : decode cX2_rootOf 17 = .ok (.imul, 1) := by decide +kernel
theorem dX2_rootOf_18 : decode cX2_rootOf 18 = .ok (.iload_n 0, 1) := by decide +kernel
theorem dX2_rootOf_19 : decode cX2_rootOf 19 = .ok (.if_icmp .gt 5, 3) := by decide +kernel
theorem dX2_rootOf_22 : decode cX2_rootOf 22 = .ok (.iload_n 3, 1) := by decide +kernel
theorem dX2_rootOf_23 : decode cX2_rootOf 23 = .ok (.istore_n 1, 1) := by decide +kernel
theorem dX2_rootOf_24 : decode cX2_rootOf 24 = .ok (.iinc 2 (-1), 3) := by decide +kernel
theorem dX2_rootOf_27 : decode cX2_rootOf 27 = .ok (.goto (-22), 3) := by decide +kernel
theorem dX2_rootOf_30 : decode cX2_rootOf 30 = .ok (.iload_n 1, 1) := by decide +kernel
theorem dX2_rootOf_31 : decode cX2_rootOf 31 = .ok (.ireturn, 1) := by decide +kernel
set_option maxHeartbeats 4000000 in
set_option maxRecDepth 100000 in
theorem c_X2_rootOf (l : Launch) (E : fEv) (N : Nat) (a0 : Int32) (σ : fS) (r : Int32) (τ : fS) (hG : g_X2_rootOf N a0 σ = some (r, τ)) : fM l E yX2_rootOf (.code yX2_rootOf cX2_rootOf 4 (some .int)) rm_X2_rootOf [.int a0] σ τ (some (.int r)) := by
  refine f_openI (by decide) (Nat.le_of_ble_eq_true rfl) ?_
  intro p e s m below meth c args Q F hR hP ls hl
  have hx := F.1.1
  have hb := F.1.2.1
  have hown := F.1.2.2.2.1
  have hts := F.1.2.2.2.2
  have hS : va_S (f_A E) s.heap s.heap [] := va_S.rf
  skip
  have hl : lv_has ls 4 [(0, .int a0)] := hl
  unfold g_X2_rootOf at hG
  refine lv_iconst (v := 0) hx hb dX2_rootOf_0 (by decide) ?_
  refine lv_istore_n (lv' := [(1, .int (0 : Int32)), (0, .int a0)]) hx hb dX2_rootOf_1 rfl hl (by decide) rfl (fun ls hl => ?_)
  refine lv_bipush (v := 14) hx hb dX2_rootOf_2 (by decide) ?_
  refine lv_istore_n (lv' := [(2, .int (14 : Int32)), (1, .int (0 : Int32)), (0, .int a0)]) hx hb dX2_rootOf_4 rfl hl (by decide) rfl (fun ls hl => ?_)
  obtain ⟨o5, σl5, hT5, hG⟩ := f_bd hG
  have T5 : ∀ (H : Heap) (locs : List Loc) (ls : Array Slot), f_h E σl5 H → va_S (f_A E) s.heap H locs → lv_has ls 4 [(1, .int o5)] → W p l e rm_X2_rootOf s m args below meth c H locs 0 0 Q (F0 m 30 ls []) := by
    intro H locs ls hP hS hl
    refine lv_iload_n hx hb dX2_rootOf_30 rfl (lv_at hl 0 rfl) ?_
    exact x_ri hR hS hP hG dX2_rootOf_31
  have L5 : ∀ (n5 : Nat) (x5_1 : Int32) (x5_2 : Int32) (σh5 : fS) (H : Heap) (locs : List Loc) (ls : Array Slot), f_h E σh5 H → va_S (f_A E) s.heap H locs → lv_has ls 4 [(0, .int a0), (1, .int x5_1), (2, .int x5_2)] → lp_X2_rootOf_5 N a0 n5 x5_1 x5_2 σh5 = some (o5, σl5) → W p l e rm_X2_rootOf s m args below meth c H locs 0 0 Q (F0 m 5 ls []) := by
    intro n5
    induction n5 with
    | zero =>
      intro x5_1 x5_2 σh5 H locs ls hP hS hl hG
      rw [lp_X2_rootOf_5] at hG
      cases hG
    | succ n5 ih5 =>
      intro x5_1 x5_2 σh5 H locs ls hP hS hl hG
      rw [lp_X2_rootOf_5] at hG
      refine lv_iload_n hx hb dX2_rootOf_5 rfl (lv_at hl 2 rfl) ?_
      refine lv_if_lt (tgt := 30) hx hb dX2_rootOf_6 (by decide) (fun c6 => ?_) (fun c6 => ?_)
      · have hG := f_ip c6 hG
        cases hG
        exact T5 _ _ _ hP hS (lv_sub hl [1] rfl)
      · have hG := f_in c6 hG
        refine lv_iload_n hx hb dX2_rootOf_9 rfl (lv_at hl 1 rfl) ?_
        refine lv_iconst (v := 1) hx hb dX2_rootOf_10 (by decide) ?_
        refine lv_iload_n hx hb dX2_rootOf_11 rfl (lv_at hl 2 rfl) ?_
        refine lv_ishl hx hb dX2_rootOf_12 ?_
        refine lv_ior hx hb dX2_rootOf_13 ?_
        refine lv_topi (fun v14 e14 => ?_)
        have hG := f_lt hG e14
        refine lv_istore_n (lv' := [(3, .int v14), (0, .int a0), (1, .int x5_1), (2, .int x5_2)]) hx hb dX2_rootOf_14 rfl hl (by decide) rfl (fun ls hl => ?_)
        refine lv_iload_n hx hb dX2_rootOf_15 rfl (lv_at hl 0 rfl) ?_
        refine lv_iload_n hx hb dX2_rootOf_16 rfl (lv_at hl 0 rfl) ?_
        refine lv_imul hx hb dX2_rootOf_17 ?_
        refine lv_iload_n hx hb dX2_rootOf_18 rfl (lv_at hl 1 rfl) ?_
        refine lv_icmp_gt (tgt := 24) hx hb dX2_rootOf_19 (by decide) (fun c19 => ?_) (fun c19 => ?_)
        · have hG := f_ip c19 hG
          refine lv_iinc (v := (x5_2 + (-1 : Int32))) (lv' := [(2, .int (x5_2 + (-1 : Int32))), (3, .int v14), (0, .int a0), (1, .int x5_1)]) hx hb dX2_rootOf_24 hl (k := 3) rfl (by rfl) (by decide) rfl (fun ls hl => ?_)
          refine lv_goto (tgt := 5) hx hb dX2_rootOf_27 (by decide) ?_
          exact ih5 x5_1 (x5_2 + (-1 : Int32)) σh5 _ _ _ hP hS (lv_sub hl [2, 3, 0] rfl) hG
        · have hG := f_in c19 hG
          refine lv_iload_n hx hb dX2_rootOf_22 rfl (lv_at hl 0 rfl) ?_
          refine lv_istore_n (lv' := [(1, .int v14), (3, .int v14), (0, .int a0), (2, .int x5_2)]) hx hb dX2_rootOf_23 rfl hl (by decide) rfl (fun ls hl => ?_)
          refine lv_iinc (v := (x5_2 + (-1 : Int32))) (lv' := [(2, .int (x5_2 + (-1 : Int32))), (1, .int v14), (3, .int v14), (0, .int a0)]) hx hb dX2_rootOf_24 hl (k := 3) rfl (by rfl) (by decide) rfl (fun ls hl => ?_)
          refine lv_goto (tgt := 5) hx hb dX2_rootOf_27 (by decide) ?_
          exact ih5 v14 (x5_2 + (-1 : Int32)) σh5 _ _ _ hP hS (lv_sub hl [3, 1, 0] rfl) hG
  exact L5 N (0 : Int32) (14 : Int32) σ _ _ _ hP hS (lv_sub hl [2, 1, 0] rfl) hT5
theorem dJ9_max_7cf53_0 : decode cJ9_max_7cf53 0 = .ok (.iload_n 0, 1) := by decide +kernel
theorem dJ9_max_7cf53_1 : decode cJ9_max_7cf53 1 = .ok (.iload_n 1, 1) := by decide +kernel
theorem dJ9_max_7cf53_2 : decode cJ9_max_7cf53 2 = .ok (.if_icmp .lt 7, 3) := by decide +kernel
theorem dJ9_max_7cf53_5 : decode cJ9_max_7cf53 5 = .ok (.iload_n 0, 1) := by decide +kernel
theorem dJ9_max_7cf53_6 : decode cJ9_max_7cf53 6 = .ok (.goto 4, 3) := by decide +kernel
theorem dJ9_max_7cf53_9 : decode cJ9_max_7cf53 9 = .ok (.iload_n 1, 1) := by decide +kernel
theorem dJ9_max_7cf53_10 : decode cJ9_max_7cf53 10 = .ok (.ireturn, 1) := by decide +kernel
set_option maxHeartbeats 4000000 in
set_option maxRecDepth 100000 in
theorem c_J9_max_7cf53 (l : Launch) (E : fEv) (N : Nat) (a0 : Int32) (a1 : Int32) (σ : fS) (r : Int32) (τ : fS) (hG : g_J9_max_7cf53 N a0 a1 σ = some (r, τ)) : fM l E yJ9_max_7cf53 (.code yJ9_max_7cf53 cJ9_max_7cf53 2 (some .int)) rm_J9_max_7cf53 [.int a0, .int a1] σ τ (some (.int r)) := by
  refine f_openM (by decide +kernel) (Nat.le_of_ble_eq_true rfl) ?_
  intro p e s m below meth c args Q F hR hP ls hl
  have hx := F.1.1
  have hb := F.1.2.1
  have hown := F.1.2.2.2.1
  have hts := F.1.2.2.2.2
  have hS : va_S (f_A E) s.heap s.heap [] := va_S.rf
  skip
  have hl : lv_has ls 2 [(0, .int a0), (1, .int a1)] := hl
  unfold g_J9_max_7cf53 at hG
  refine lv_iload_n hx hb dJ9_max_7cf53_0 rfl (lv_at hl 0 rfl) ?_
  refine lv_iload_n hx hb dJ9_max_7cf53_1 rfl (lv_at hl 1 rfl) ?_
  refine lv_icmp_lt (tgt := 9) hx hb dJ9_max_7cf53_2 (by decide) (fun c2 => ?_) (fun c2 => ?_)
  · have hG := f_ip c2 hG
    refine lv_iload_n hx hb dJ9_max_7cf53_9 rfl (lv_at hl 1 rfl) ?_
    exact x_ri hR hS hP hG dJ9_max_7cf53_10
  · have hG := f_in c2 hG
    refine lv_iload_n hx hb dJ9_max_7cf53_5 rfl (lv_at hl 0 rfl) ?_
    refine lv_goto (tgt := 10) hx hb dJ9_max_7cf53_6 (by decide) ?_
    exact x_ri hR hS hP hG dJ9_max_7cf53_10
theorem dX1_finish_0 : decode cX1_finish 0 = .ok (.aload_n 0, 1) := by decide +kernel
theorem dX1_finish_1 : decode cX1_finish 1 = .ok (.getfield 20, 3) := by decide +kernel
theorem dX1_finish_4 : decode cX1_finish 4 = .ok (.getfield 49, 3) := by decide +kernel
theorem dX1_finish_7 : decode cX1_finish 7 = .ok (.iload_n 1, 1) := by decide +kernel
theorem dX1_finish_8 : decode cX1_finish 8 = .ok (.iaload, 1) := by decide +kernel
theorem dX1_finish_9 : decode cX1_finish 9 = .ok (.istore 4, 2) := by decide +kernel
theorem dX1_finish_11 : decode cX1_finish 11 = .ok (.iload 4, 2) := by decide +kernel
theorem dX1_finish_13 : decode cX1_finish 13 = .ok (.ifCond .eq 10, 3) := by decide +kernel
theorem dX1_finish_16 : decode cX1_finish 16 = .ok (.iload_n 2, 1) := by decide +kernel
theorem dX1_finish_17 : decode cX1_finish 17 = .ok (.iload 4, 2) := by decide +kernel
theorem dX1_finish_19 : decode cX1_finish 19 = .ok (.irem, 1) := by decide +kernel
theorem dX1_finish_20 : decode cX1_finish 20 = .ok (.ifCond .eq 4, 3) := by decide +kernel
theorem dX1_finish_23 : decode cX1_finish 23 = .ok (.return_, 1) := by decide +kernel
theorem dX1_finish_24 : decode cX1_finish 24 = .ok (.iload_n 2, 1) := by decide +kernel
theorem dX1_finish_25 : decode cX1_finish 25 = .ok (.iload 4, 2) := by decide +kernel
theorem dX1_finish_27 : decode cX1_finish 27 = .ok (.idiv, 1) := by decide +kernel
theorem dX1_finish_28 : decode cX1_finish 28 = .ok (.ineg, 1) := by decide +kernel
theorem dX1_finish_29 : decode cX1_finish 29 = .ok (.istore 5, 2) := by decide +kernel
theorem dX1_finish_31 : decode cX1_finish 31 = .ok (.iload 5, 2) := by decide +kernel
theorem dX1_finish_33 : decode cX1_finish 33 = .ok (.ifCond .lt 17, 3) := by decide +kernel
theorem dX1_finish_36 : decode cX1_finish 36 = .ok (.iload 5, 2) := by decide +kernel
theorem dX1_finish_38 : decode cX1_finish 38 = .ok (.aload_n 0, 1) := by decide +kernel
theorem dX1_finish_39 : decode cX1_finish 39 = .ok (.getfield 24, 3) := by decide +kernel
theorem dX1_finish_42 : decode cX1_finish 42 = .ok (.aload_n 0, 1) := by decide +kernel
theorem dX1_finish_43 : decode cX1_finish 43 = .ok (.getfield 24, 3) := by decide +kernel
theorem dX1_finish_46 : decode cX1_finish 46 = .ok (.imul, 1) := by decide +kernel
theorem dX1_finish_47 : decode cX1_finish 47 = .ok (.if_icmp .le 4, 3) := by decide +kernel
theorem dX1_finish_50 : decode cX1_finish 50 = .ok (.return_, 1) := by decide +kernel
theorem dX1_finish_51 : decode cX1_finish 51 = .ok (.iload 5, 2) := by decide +kernel
theorem dX1_finish_53 : decode cX1_finish 53 = .ok (.invokestatic 58, 3) := by decide +kernel
theorem dX1_finish_56 : decode cX1_finish 56 = .ok (.istore 6, 2) := by decide +kernel
theorem dX1_finish_58 : decode cX1_finish 58 = .ok (.iload_n 3, 1) := by decide +kernel
theorem dX1_finish_59 : decode cX1_finish 59 = .ok (.iload 6, 2) := by decide +kernel
theorem dX1_finish_61 : decode cX1_finish 61 = .ok (.invokestatic 52, 3) := by decide +kernel
theorem dX1_finish_64 : decode cX1_finish 64 = .ok (.istore 7, 2) := by decide +kernel
theorem dX1_finish_66 : decode cX1_finish 66 = .ok (.iload 6, 2) := by decide +kernel
theorem dX1_finish_68 : decode cX1_finish 68 = .ok (.iload 6, 2) := by decide +kernel
theorem dX1_finish_70 : decode cX1_finish 70 = .ok (.imul, 1) := by decide +kernel
theorem dX1_finish_71 : decode cX1_finish 71 = .ok (.iload 5, 2) := by decide +kernel
theorem dX1_finish_73 : decode cX1_finish 73 = .ok (.if_icmp .ne 29, 3) := by decide +kernel
theorem dX1_finish_76 : decode cX1_finish 76 = .ok (.iload 7, 2) := by decide +kernel
theorem dX1_finish_78 : decode cX1_finish 78 = .ok (.ifCond .eq 24, 3) := by decide +kernel
theorem dX1_finish_81 : decode cX1_finish 81 = .ok (.iload 7, 2) := by decide +kernel
theorem dX1_finish_83 : decode cX1_finish 83 = .ok (.aload_n 0, 1) := by decide +kernel
theorem dX1_finish_84 : decode cX1_finish 84 = .ok (.getfield 24, 3) := by decide +kernel
theorem dX1_finish_87 : decode cX1_finish 87 = .ok (.if_icmp .gt 15, 3) := by decide +kernel
theorem dX1_finish_90 : decode cX1_finish 90 = .ok (.aload_n 0, 1) := by decide +kernel
theorem dX1_finish_91 : decode cX1_finish 91 = .ok (.getfield 28, 3) := by decide +kernel
theorem dX1_finish_94 : decode cX1_finish 94 = .ok (.ifCond .eq 9, 3) := by decide +kernel
theorem dX1_finish_97 : decode cX1_finish 97 = .ok (.iload 6, 2) := by decide +kernel
theorem dX1_finish_99 : decode cX1_finish 99 = .ok (.ifCond .ne 4, 3) := by decide +kernel
theorem dX1_finish_102 : decode cX1_finish 102 = .ok (.return_, 1) := by decide +kernel
theorem dX1_finish_103 : decode cX1_finish 103 = .ok (.aload_n 0, 1) := by decide +kernel
theorem dX1_finish_104 : decode cX1_finish 104 = .ok (.getfield 11, 3) := by decide +kernel
theorem dX1_finish_107 : decode cX1_finish 107 = .ok (.iload_n 1, 1) := by decide +kernel
theorem dX1_finish_108 : decode cX1_finish 108 = .ok (.iload 6, 2) := by decide +kernel
theorem dX1_finish_110 : decode cX1_finish 110 = .ok (.iastore, 1) := by decide +kernel
theorem dX1_finish_111 : decode cX1_finish 111 = .ok (.aload_n 0, 1) := by decide +kernel
theorem dX1_finish_112 : decode cX1_finish 112 = .ok (.getfield 11, 3) := by decide +kernel
theorem dX1_finish_115 : decode cX1_finish 115 = .ok (.iconst 0, 1) := by decide +kernel
theorem dX1_finish_116 : decode cX1_finish 116 = .ok (.aload_n 0, 1) := by decide +kernel
theorem dX1_finish_117 : decode cX1_finish 117 = .ok (.getfield 17, 3) := by decide +kernel
theorem dX1_finish_120 : decode cX1_finish 120 = .ok (.iconst 0, 1) := by decide +kernel
theorem dX1_finish_121 : decode cX1_finish 121 = .ok (.aload_n 0, 1) := by decide +kernel
theorem dX1_finish_122 : decode cX1_finish 122 = .ok (.getfield 17, 3) := by decide +kernel
theorem dX1_finish_125 : decode cX1_finish 125 = .ok (.arraylength, 1) := by decide +kernel
theorem dX1_finish_126 : decode cX1_finish 126 = .ok (.invokestatic 64, 3) := by decide +kernel
theorem dX1_finish_129 : decode cX1_finish 129 = .ok (.aload_n 0, 1) := by decide +kernel
theorem dX1_finish_130 : decode cX1_finish 130 = .ok (.iload 7, 2) := by decide +kernel
theorem dX1_finish_132 : decode cX1_finish 132 = .ok (.iconst 1, 1) := by decide +kernel
theorem dX1_finish_133 : decode cX1_finish 133 = .ok (.isub, 1) := by decide +kernel
theorem dX1_finish_134 : decode cX1_finish 134 = .ok (.putfield 24, 3) := by decide +kernel
theorem dX1_finish_137 : decode cX1_finish 137 = .ok (.aload_n 0, 1) := by decide +kernel
theorem dX1_finish_138 : decode cX1_finish 138 = .ok (.iconst 1, 1) := by decide +kernel
theorem dX1_finish_139 : decode cX1_finish 139 = .ok (.putfield 32, 3) := by decide +kernel
theorem dX1_finish_142 : decode cX1_finish 142 = .ok (.return_, 1) := by decide +kernel
set_option maxHeartbeats 4000000 in
set_option maxRecDepth 100000 in
theorem c_X1_finish (l : Launch) (E : fEv) (N : Nat) (a1 : Int32) (a2 : Int32) (a3 : Int32) (σ : fS) (τ : fS) (hG : g_X1_finish N a1 a2 a3 σ = some τ) : fM l E yX1_finish (.code yX1_finish cX1_finish 8 none) rm_X1_finish [.ref (E.2.1 18), .int a1, .int a2, .int a3] σ τ none := by
  refine f_openV (by decide) (Nat.le_of_ble_eq_true rfl) ?_
  intro p e s m below meth c args Q F hR hP ls hl
  have hx := F.1.1
  have hb := F.1.2.1
  have hown := F.1.2.2.2.1
  have hts := F.1.2.2.2.2
  have hS : va_S (f_A E) s.heap s.heap [] := va_S.rf
  skip
  have hl : lv_has ls 8 [(0, .ref (E.2.1 18)), (1, .int a1), (2, .int a2), (3, .int a3)] := hl
  unfold g_X1_finish at hG
  refine lv_aload_n hx hb dX1_finish_0 rfl (lv_at hl 0 rfl) ?_
  refine gf_X1_20 F hP dX1_finish_1 ?_
  refine gf_X1_49 F hP dX1_finish_4 ?_
  refine lv_iload_n hx hb dX1_finish_7 rfl (lv_at hl 1 rfl) ?_
  obtain ⟨h8, hG⟩ := f_gd hG
  have i8 := f_fin h8
  refine x_iald F hP rfl rfl i8 dX1_finish_8 ?_
  refine lv_topi (fun v9 e9 => ?_)
  have hG := f_lt hG e9
  refine lv_istore (lv' := [(4, .int v9), (0, .ref (E.2.1 18)), (1, .int a1), (2, .int a2), (3, .int a3)]) hx hb dX1_finish_9 hl (by decide) rfl (fun ls hl => ?_)
  refine lv_iload hx hb dX1_finish_11 (lv_at hl 0 rfl) ?_
  refine lv_if_eq (tgt := 23) hx hb dX1_finish_13 (by decide) (fun c13 => ?_) (fun c13 => ?_)
  · have hG := f_ip c13 hG
    exact x_rv hR hS hP hG dX1_finish_23
  · have hG := f_in c13 hG
    refine lv_iload_n hx hb dX1_finish_16 rfl (lv_at hl 3 rfl) ?_
    refine lv_iload hx hb dX1_finish_17 (lv_at hl 0 rfl) ?_
    obtain ⟨h19, hG⟩ := f_gd hG
    refine x_irem F dX1_finish_19 (f_nz h19) ?_
    refine lv_if_eq (tgt := 24) hx hb dX1_finish_20 (by decide) (fun c20 => ?_) (fun c20 => ?_)
    · have hG := f_ip c20 hG
      refine lv_iload_n hx hb dX1_finish_24 rfl (lv_at hl 3 rfl) ?_
      refine lv_iload hx hb dX1_finish_25 (lv_at hl 0 rfl) ?_
      obtain ⟨h27, hG⟩ := f_gd hG
      refine lv_idiv hx hb dX1_finish_27 (f_nz h27) ?_
      refine lv_ineg hx hb dX1_finish_28 ?_
      refine lv_topi (fun v29 e29 => ?_)
      have hG := f_lt hG e29
      refine lv_istore (lv' := [(5, .int v29), (4, .int v9), (0, .ref (E.2.1 18)), (1, .int a1), (2, .int a2), (3, .int a3)]) hx hb dX1_finish_29 hl (by decide) rfl (fun ls hl => ?_)
      refine lv_iload hx hb dX1_finish_31 (lv_at hl 0 rfl) ?_
      refine lv_if_lt (tgt := 50) hx hb dX1_finish_33 (by decide) (fun c33 => ?_) (fun c33 => ?_)
      · have hG := f_ip c33 hG
        exact x_rv hR hS hP hG dX1_finish_50
      · have hG := f_in c33 hG
        refine lv_iload hx hb dX1_finish_36 (lv_at hl 0 rfl) ?_
        refine lv_aload_n hx hb dX1_finish_38 rfl (lv_at hl 2 rfl) ?_
        refine gf_X1_24 F hP dX1_finish_39 ?_
        refine lv_aload_n hx hb dX1_finish_42 rfl (lv_at hl 2 rfl) ?_
        refine gf_X1_24 F hP dX1_finish_43 ?_
        refine lv_imul hx hb dX1_finish_46 ?_
        refine lv_icmp_le (tgt := 51) hx hb dX1_finish_47 (by decide) (fun c47 => ?_) (fun c47 => ?_)
        · have hG := f_ip c47 hG
          refine lv_iload hx hb dX1_finish_51 (lv_at hl 0 rfl) ?_
          obtain ⟨r53, σ53, hC53, hG⟩ := f_bd hG
          refine iv_X1_58 F hS hP (c_X2_rootOf l E N v29 σ _ _ hC53) ⟨Nat.le_of_ble_eq_true rfl, Nat.le_of_ble_eq_true rfl⟩ hl.1 (Nat.le_of_ble_eq_true rfl) dX1_finish_53 ⟨Nat.zero_le _, Nat.zero_le _⟩ (fun H locs hP hS => ?_)
          refine lv_istore (lv' := [(6, .int r53), (5, .int v29), (4, .int v9), (0, .ref (E.2.1 18)), (1, .int a1), (2, .int a2), (3, .int a3)]) hx hb dX1_finish_56 hl (by decide) rfl (fun ls hl => ?_)
          refine lv_iload_n hx hb dX1_finish_58 rfl (lv_at hl 6 rfl) ?_
          refine lv_iload hx hb dX1_finish_59 (lv_at hl 0 rfl) ?_
          obtain ⟨r61, σ61, hC61, hG⟩ := f_bd hG
          refine iv_X1_52 F hS hP (c_J9_max_7cf53 l E N a3 r53 σ53 _ _ hC61) ⟨Nat.le_of_ble_eq_true rfl, Nat.le_of_ble_eq_true rfl⟩ hl.1 (Nat.le_of_ble_eq_true rfl) dX1_finish_61 ⟨Nat.zero_le _, Nat.zero_le _⟩ (fun H locs hP hS => ?_)
          refine lv_istore (lv' := [(7, .int r61), (6, .int r53), (5, .int v29), (4, .int v9), (0, .ref (E.2.1 18)), (1, .int a1), (2, .int a2), (3, .int a3)]) hx hb dX1_finish_64 hl (by decide) rfl (fun ls hl => ?_)
          refine lv_iload hx hb dX1_finish_66 (lv_at hl 1 rfl) ?_
          refine lv_iload hx hb dX1_finish_68 (lv_at hl 1 rfl) ?_
          refine lv_imul hx hb dX1_finish_70 ?_
          refine lv_iload hx hb dX1_finish_71 (lv_at hl 2 rfl) ?_
          refine lv_icmp_ne (tgt := 102) hx hb dX1_finish_73 (by decide) (fun c73 => ?_) (fun c73 => ?_)
          · have hG := f_in c73 hG
            exact x_rv hR hS hP hG dX1_finish_102
          · have hG := f_ip c73 hG
            refine lv_iload hx hb dX1_finish_76 (lv_at hl 0 rfl) ?_
            refine lv_if_eq (tgt := 102) hx hb dX1_finish_78 (by decide) (fun c78 => ?_) (fun c78 => ?_)
            · have hG := f_ip c78 hG
              exact x_rv hR hS hP hG dX1_finish_102
            · have hG := f_in c78 hG
              refine lv_iload hx hb dX1_finish_81 (lv_at hl 0 rfl) ?_
              refine lv_aload_n hx hb dX1_finish_83 rfl (lv_at hl 4 rfl) ?_
              refine gf_X1_24 F hP dX1_finish_84 ?_
              refine lv_icmp_gt (tgt := 102) hx hb dX1_finish_87 (by decide) (fun c87 => ?_) (fun c87 => ?_)
              · have hG := f_ip c87 hG
                exact x_rv hR hS hP hG dX1_finish_102
              · have hG := f_in c87 hG
                refine lv_aload_n hx hb dX1_finish_90 rfl (lv_at hl 4 rfl) ?_
                refine gf_X1_28 F hP dX1_finish_91 ?_
                refine lv_if_eq (tgt := 103) hx hb dX1_finish_94 (by decide) (fun c94 => ?_) (fun c94 => ?_)
                · have hG := f_ip c94 hG
                  refine lv_aload_n hx hb dX1_finish_103 rfl (lv_at hl 4 rfl) ?_
                  refine gf_X1_11 F hP dX1_finish_104 ?_
                  refine lv_iload_n hx hb dX1_finish_107 rfl (lv_at hl 5 rfl) ?_
                  refine lv_iload hx hb dX1_finish_108 (lv_at hl 1 rfl) ?_
                  obtain ⟨h110, hG⟩ := f_gd hG
                  have i110 := f_fin h110
                  refine x_iast F hS hP rfl rfl i110 dX1_finish_110 (fun H locs hP hS => ?_)
                  obtain ⟨σ110, e110⟩ : ∃ t : fS, t = sI σ61 19 (a1).toNatClampNeg r53 := ⟨_, rfl⟩
                  rw [← e110] at hP
                  have hG := f_lt hG e110
                  refine lv_aload_n hx hb dX1_finish_111 rfl (lv_at hl 4 rfl) ?_
                  refine gf_X1_11 F hP dX1_finish_112 ?_
                  refine lv_iconst (v := 0) hx hb dX1_finish_115 (by decide) ?_
                  refine lv_aload_n hx hb dX1_finish_116 rfl (lv_at hl 4 rfl) ?_
                  refine gf_X1_17 F hP dX1_finish_117 ?_
                  refine lv_iconst (v := 0) hx hb dX1_finish_120 (by decide) ?_
                  refine lv_aload_n hx hb dX1_finish_121 rfl (lv_at hl 4 rfl) ?_
                  refine gf_X1_17 F hP dX1_finish_122 ?_
                  refine x_alen (v := 5) F hP rfl rfl rfl dX1_finish_125 ?_
                  refine x_cpy F hS hP hl.1 dX1_finish_126 (fun H locs hP hS => ?_)
                  obtain ⟨σ126, e126⟩ : ∃ t : fS, t = sC σ110 := ⟨_, rfl⟩
                  rw [← e126] at hP
                  have hG := f_lt hG e126
                  refine lv_aload_n hx hb dX1_finish_129 rfl (lv_at hl 4 rfl) ?_
                  refine lv_iload hx hb dX1_finish_130 (lv_at hl 0 rfl) ?_
                  refine lv_iconst (v := 1) hx hb dX1_finish_132 (by decide) ?_
                  refine lv_isub hx hb dX1_finish_133 ?_
                  refine pf_X1_24 F hS hP dX1_finish_134 (fun H locs hP hS => ?_)
                  obtain ⟨σ134, e134⟩ : ∃ t : fS, t = sI σ126 18 3 (r61 - (1 : Int32)) := ⟨_, rfl⟩
                  rw [← e134] at hP
                  have hG := f_lt hG e134
                  refine lv_aload_n hx hb dX1_finish_137 rfl (lv_at hl 4 rfl) ?_
                  refine lv_iconst (v := 1) hx hb dX1_finish_138 (by decide) ?_
                  refine pf_X1_32 F hS hP (Or.inr rfl) dX1_finish_139 (fun H locs hP hS => ?_)
                  obtain ⟨σ139, e139⟩ : ∃ t : fS, t = sI σ134 18 5 (1 : Int32) := ⟨_, rfl⟩
                  rw [← e139] at hP
                  have hG := f_lt hG e139
                  exact x_rv hR hS hP hG dX1_finish_142
                · have hG := f_in c94 hG
                  refine lv_iload hx hb dX1_finish_97 (lv_at hl 1 rfl) ?_
                  refine lv_if_ne (tgt := 103) hx hb dX1_finish_99 (by decide) (fun c99 => ?_) (fun c99 => ?_)
                  · have hG := f_in c99 hG
                    refine lv_aload_n hx hb dX1_finish_103 rfl (lv_at hl 4 rfl) ?_
                    refine gf_X1_11 F hP dX1_finish_104 ?_
                    refine lv_iload_n hx hb dX1_finish_107 rfl (lv_at hl 5 rfl) ?_
                    refine lv_iload hx hb dX1_finish_108 (lv_at hl 1 rfl) ?_
                    obtain ⟨h110, hG⟩ := f_gd hG
                    have i110 := f_fin h110
                    refine x_iast F hS hP rfl rfl i110 dX1_finish_110 (fun H locs hP hS => ?_)
                    obtain ⟨σ110, e110⟩ : ∃ t : fS, t = sI σ61 19 (a1).toNatClampNeg r53 := ⟨_, rfl⟩
                    rw [← e110] at hP
                    have hG := f_lt hG e110
                    refine lv_aload_n hx hb dX1_finish_111 rfl (lv_at hl 4 rfl) ?_
                    refine gf_X1_11 F hP dX1_finish_112 ?_
                    refine lv_iconst (v := 0) hx hb dX1_finish_115 (by decide) ?_
                    refine lv_aload_n hx hb dX1_finish_116 rfl (lv_at hl 4 rfl) ?_
                    refine gf_X1_17 F hP dX1_finish_117 ?_
                    refine lv_iconst (v := 0) hx hb dX1_finish_120 (by decide) ?_
                    refine lv_aload_n hx hb dX1_finish_121 rfl (lv_at hl 4 rfl) ?_
                    refine gf_X1_17 F hP dX1_finish_122 ?_
                    refine x_alen (v := 5) F hP rfl rfl rfl dX1_finish_125 ?_
                    refine x_cpy F hS hP hl.1 dX1_finish_126 (fun H locs hP hS => ?_)
                    obtain ⟨σ126, e126⟩ : ∃ t : fS, t = sC σ110 := ⟨_, rfl⟩
                    rw [← e126] at hP
                    have hG := f_lt hG e126
                    refine lv_aload_n hx hb dX1_finish_129 rfl (lv_at hl 4 rfl) ?_
                    refine lv_iload hx hb dX1_finish_130 (lv_at hl 0 rfl) ?_
                    refine lv_iconst (v := 1) hx hb dX1_finish_132 (by decide) ?_
                    refine lv_isub hx hb dX1_finish_133 ?_
                    refine pf_X1_24 F hS hP dX1_finish_134 (fun H locs hP hS => ?_)
                    obtain ⟨σ134, e134⟩ : ∃ t : fS, t = sI σ126 18 3 (r61 - (1 : Int32)) := ⟨_, rfl⟩
                    rw [← e134] at hP
                    have hG := f_lt hG e134
                    refine lv_aload_n hx hb dX1_finish_137 rfl (lv_at hl 4 rfl) ?_
                    refine lv_iconst (v := 1) hx hb dX1_finish_138 (by decide) ?_
                    refine pf_X1_32 F hS hP (Or.inr rfl) dX1_finish_139 (fun H locs hP hS => ?_)
                    obtain ⟨σ139, e139⟩ : ∃ t : fS, t = sI σ134 18 5 (1 : Int32) := ⟨_, rfl⟩
                    rw [← e139] at hP
                    have hG := f_lt hG e139
                    exact x_rv hR hS hP hG dX1_finish_142
                  · have hG := f_ip c99 hG
                    exact x_rv hR hS hP hG dX1_finish_102
        · have hG := f_in c47 hG
          exact x_rv hR hS hP hG dX1_finish_50
    · have hG := f_in c20 hG
      exact x_rv hR hS hP hG dX1_finish_23
theorem dX1_seek_0 : decode cX1_seek 0 = .ok (.iload_n 1, 1) := by decide +kernel
theorem dX1_seek_1 : decode cX1_seek 1 = .ok (.ifCond .lt 8, 3) := by decide +kernel
theorem dX1_seek_4 : decode cX1_seek 4 = .ok (.iload_n 1, 1) := by decide +kernel
theorem dX1_seek_5 : decode cX1_seek 5 = .ok (.iconst 5, 1) := by decide +kernel
theorem dX1_seek_6 : decode cX1_seek 6 = .ok (.if_icmp .lt 4, 3) := by decide +kernel
theorem dX1_seek_9 : decode cX1_seek 9 = .ok (.return_, 1) := by decide +kernel
theorem dX1_seek_10 : decode cX1_seek 10 = .ok (.iload_n 1, 1) := by decide +kernel
theorem dX1_seek_11 : decode cX1_seek 11 = .ok (.aload_n 0, 1) := by decide +kernel
theorem dX1_seek_12 : decode cX1_seek 12 = .ok (.getfield 20, 3) := by decide +kernel
theorem dX1_seek_15 : decode cX1_seek 15 = .ok (.getfield 35, 3) := by decide +kernel
theorem dX1_seek_18 : decode cX1_seek 18 = .ok (.iconst 1, 1) := by decide +kernel
theorem dX1_seek_19 : decode cX1_seek 19 = .ok (.isub, 1) := by decide +kernel
theorem dX1_seek_20 : decode cX1_seek 20 = .ok (.if_icmp .lt 11, 3) := by decide +kernel
theorem dX1_seek_23 : decode cX1_seek 23 = .ok (.aload_n 0, 1) := by decide +kernel
theorem dX1_seek_24 : decode cX1_seek 24 = .ok (.iload_n 1, 1) := by decide +kernel
theorem dX1_seek_25 : decode cX1_seek 25 = .ok (.iload_n 2, 1) := by decide +kernel
theorem dX1_seek_26 : decode cX1_seek 26 = .ok (.iload_n 3, 1) := by decide +kernel
theorem dX1_seek_27 : decode cX1_seek 27 = .ok (.invokevirtual 46, 3) := by decide +kernel
theorem dX1_seek_30 : decode cX1_seek 30 = .ok (.return_, 1) := by decide +kernel
theorem dX1_seek_31 : decode cX1_seek 31 = .ok (.iconst 0, 1) := by decide +kernel
theorem dX1_seek_32 : decode cX1_seek 32 = .ok (.istore 4, 2) := by decide +kernel
theorem dX1_seek_34 : decode cX1_seek 34 = .ok (.iload 4, 2) := by decide +kernel
theorem dX1_seek_36 : decode cX1_seek 36 = .ok (.bipush 15, 2) := by decide +kernel
theorem dX1_seek_38 : decode cX1_seek 38 = .ok (.if_icmp .gt 56, 3) := by decide +kernel
theorem dX1_seek_41 : decode cX1_seek 41 = .ok (.iload 4, 2) := by decide +kernel
theorem dX1_seek_43 : decode cX1_seek 43 = .ok (.aload_n 0, 1) := by decide +kernel
theorem dX1_seek_44 : decode cX1_seek 44 = .ok (.getfield 24, 3) := by decide +kernel
theorem dX1_seek_47 : decode cX1_seek 47 = .ok (.if_icmp .gt 47, 3) := by decide +kernel
theorem dX1_seek_50 : decode cX1_seek 50 = .ok (.aload_n 0, 1) := by decide +kernel
theorem dX1_seek_51 : decode cX1_seek 51 = .ok (.getfield 11, 3) := by decide +kernel
theorem dX1_seek_54 : decode cX1_seek 54 = .ok (.iload_n 1, 1) := by decide +kernel
theorem dX1_seek_55 : decode cX1_seek 55 = .ok (.iload 4, 2) := by decide +kernel
theorem dX1_seek_57 : decode cX1_seek 57 = .ok (.iastore, 1) := by decide +kernel
theorem dX1_seek_58 : decode cX1_seek 58 = .ok (.aload_n 0, 1) := by decide +kernel
theorem dX1_seek_59 : decode cX1_seek 59 = .ok (.iload_n 1, 1) := by decide +kernel
theorem dX1_seek_60 : decode cX1_seek 60 = .ok (.iconst 1, 1) := by decide +kernel
theorem dX1_seek_61 : decode cX1_seek 61 = .ok (.iadd, 1) := by decide +kernel
theorem dX1_seek_62 : decode cX1_seek 62 = .ok (.iload_n 2, 1) := by decide +kernel
theorem dX1_seek_63 : decode cX1_seek 63 = .ok (.aload_n 0, 1) := by decide +kernel
theorem dX1_seek_64 : decode cX1_seek 64 = .ok (.getfield 20, 3) := by decide +kernel
theorem dX1_seek_67 : decode cX1_seek 67 = .ok (.getfield 49, 3) := by decide +kernel
theorem dX1_seek_70 : decode cX1_seek 70 = .ok (.iload_n 1, 1) := by decide +kernel
theorem dX1_seek_71 : decode cX1_seek 71 = .ok (.iaload, 1) := by decide +kernel
theorem dX1_seek_72 : decode cX1_seek 72 = .ok (.iload 4, 2) := by decide +kernel
theorem dX1_seek_74 : decode cX1_seek 74 = .ok (.imul, 1) := by decide +kernel
theorem dX1_seek_75 : decode cX1_seek 75 = .ok (.iload 4, 2) := by decide +kernel
theorem dX1_seek_77 : decode cX1_seek 77 = .ok (.imul, 1) := by decide +kernel
theorem dX1_seek_78 : decode cX1_seek 78 = .ok (.iadd, 1) := by decide +kernel
theorem dX1_seek_79 : decode cX1_seek 79 = .ok (.iload_n 3, 1) := by decide +kernel
theorem dX1_seek_80 : decode cX1_seek 80 = .ok (.iload 4, 2) := by decide +kernel
theorem dX1_seek_82 : decode cX1_seek 82 = .ok (.invokestatic 52, 3) := by decide +kernel
theorem dX1_seek_85 : decode cX1_seek 85 = .ok (.invokevirtual 42, 3) := by decide +kernel
theorem dX1_seek_88 : decode cX1_seek 88 = .ok (.iinc 4 1, 3) := by decide +kernel
theorem dX1_seek_91 : decode cX1_seek 91 = .ok (.goto (-57), 3) := by decide +kernel
theorem dX1_seek_94 : decode cX1_seek 94 = .ok (.return_, 1) := by decide +kernel
set_option maxHeartbeats 4000000 in
set_option maxRecDepth 100000 in
theorem c_X1_seek (l : Launch) (E : fEv) (N : Nat) : ∀ (d : Nat) (a1 : Int32) (a2 : Int32) (a3 : Int32) (σ : fS) (τ : fS) (hG : g_X1_seek N d a1 a2 a3 σ = some τ), fM l E yX1_seek (.code yX1_seek cX1_seek 5 none) (rm_X1_seek d) [.ref (E.2.1 18), .int a1, .int a2, .int a3] σ τ none := by
  intro d
  induction d with
  | zero =>
    intro a1 a2 a3 σ τ hG
    rw [g_X1_seek] at hG
    cases hG
  | succ d ih =>
    intro a1 a2 a3 σ τ hG
    refine f_openV (by decide) (Nat.le_of_ble_eq_true rfl) ?_
    intro p e s m below meth c args Q F hR hP ls hl
    have hx := F.1.1
    have hb := F.1.2.1
    have hown := F.1.2.2.2.1
    have hts := F.1.2.2.2.2
    have hS : va_S (f_A E) s.heap s.heap [] := va_S.rf
    skip
    have hl : lv_has ls 5 [(0, .ref (E.2.1 18)), (1, .int a1), (2, .int a2), (3, .int a3)] := hl
    rw [g_X1_seek] at hG
    unfold b_X1_seek at hG
    refine lv_iload_n hx hb dX1_seek_0 rfl (lv_at hl 1 rfl) ?_
    refine lv_if_lt (tgt := 9) hx hb dX1_seek_1 (by decide) (fun c1 => ?_) (fun c1 => ?_)
    · have hG := f_ip c1 hG
      exact x_rv hR hS hP hG dX1_seek_9
    · have hG := f_in c1 hG
      refine lv_iload_n hx hb dX1_seek_4 rfl (lv_at hl 1 rfl) ?_
      refine lv_iconst (v := 5) hx hb dX1_seek_5 (by decide) ?_
      refine lv_icmp_lt (tgt := 10) hx hb dX1_seek_6 (by decide) (fun c6 => ?_) (fun c6 => ?_)
      · have hG := f_ip c6 hG
        refine lv_iload_n hx hb dX1_seek_10 rfl (lv_at hl 1 rfl) ?_
        refine lv_aload_n hx hb dX1_seek_11 rfl (lv_at hl 0 rfl) ?_
        refine gf_X1_20 F hP dX1_seek_12 ?_
        refine gf_X1_35 F hP dX1_seek_15 ?_
        refine lv_iconst (v := 1) hx hb dX1_seek_18 (by decide) ?_
        refine lv_isub hx hb dX1_seek_19 ?_
        refine lv_icmp_lt (tgt := 31) hx hb dX1_seek_20 (by decide) (fun c20 => ?_) (fun c20 => ?_)
        · have hG := f_ip c20 hG
          refine lv_iconst (v := 0) hx hb dX1_seek_31 (by decide) ?_
          refine lv_istore (lv' := [(4, .int (0 : Int32)), (0, .ref (E.2.1 18)), (1, .int a1), (2, .int a2), (3, .int a3)]) hx hb dX1_seek_32 hl (by decide) rfl (fun ls hl => ?_)
          obtain ⟨σl34, hT34, hG⟩ := f_bv hG
          have T34 : ∀ (H : Heap) (locs : List Loc) (ls : Array Slot), f_h E σl34 H → va_S (f_A E) s.heap H locs → lv_has ls 5 [] → W p l e (rm_X1_seek (d + 1)) s m args below meth c H locs 0 0 Q (F0 m 94 ls []) := by
            intro H locs ls hP hS hl
            exact x_rv hR hS hP hG dX1_seek_94
          have L34 : ∀ (n34 : Nat) (x34_4 : Int32) (σh34 : fS) (H : Heap) (locs : List Loc) (ls : Array Slot), f_h E σh34 H → va_S (f_A E) s.heap H locs → lv_has ls 5 [(0, .ref (E.2.1 18)), (1, .int a1), (2, .int a2), (3, .int a3), (4, .int x34_4)] → lp_X1_seek_34 N (g_X1_seek N d) a1 a2 a3 n34 x34_4 σh34 = some σl34 → W p l e (rm_X1_seek (d + 1)) s m args below meth c H locs 0 0 Q (F0 m 34 ls []) := by
            intro n34
            induction n34 with
            | zero =>
              intro x34_4 σh34 H locs ls hP hS hl hG
              rw [lp_X1_seek_34] at hG
              cases hG
            | succ n34 ih34 =>
              intro x34_4 σh34 H locs ls hP hS hl hG
              rw [lp_X1_seek_34] at hG
              refine lv_iload hx hb dX1_seek_34 (lv_at hl 4 rfl) ?_
              refine lv_bipush (v := 15) hx hb dX1_seek_36 (by decide) ?_
              refine lv_icmp_gt (tgt := 94) hx hb dX1_seek_38 (by decide) (fun c38 => ?_) (fun c38 => ?_)
              · have hG := f_ip c38 hG
                cases hG
                exact T34 _ _ _ hP hS (lv_sub hl [] rfl)
              · have hG := f_in c38 hG
                refine lv_iload hx hb dX1_seek_41 (lv_at hl 4 rfl) ?_
                refine lv_aload_n hx hb dX1_seek_43 rfl (lv_at hl 0 rfl) ?_
                refine gf_X1_24 F hP dX1_seek_44 ?_
                refine lv_icmp_gt (tgt := 94) hx hb dX1_seek_47 (by decide) (fun c47 => ?_) (fun c47 => ?_)
                · have hG := f_ip c47 hG
                  cases hG
                  exact T34 _ _ _ hP hS (lv_sub hl [] rfl)
                · have hG := f_in c47 hG
                  refine lv_aload_n hx hb dX1_seek_50 rfl (lv_at hl 0 rfl) ?_
                  refine gf_X1_11 F hP dX1_seek_51 ?_
                  refine lv_iload_n hx hb dX1_seek_54 rfl (lv_at hl 1 rfl) ?_
                  refine lv_iload hx hb dX1_seek_55 (lv_at hl 4 rfl) ?_
                  obtain ⟨h57, hG⟩ := f_gd hG
                  have i57 := f_fin h57
                  refine x_iast F hS hP rfl rfl i57 dX1_seek_57 (fun H locs hP hS => ?_)
                  obtain ⟨σ57, e57⟩ : ∃ t : fS, t = sI σh34 19 (a1).toNatClampNeg x34_4 := ⟨_, rfl⟩
                  rw [← e57] at hP
                  have hG := f_lt hG e57
                  refine lv_aload_n hx hb dX1_seek_58 rfl (lv_at hl 0 rfl) ?_
                  refine lv_iload_n hx hb dX1_seek_59 rfl (lv_at hl 1 rfl) ?_
                  refine lv_iconst (v := 1) hx hb dX1_seek_60 (by decide) ?_
                  refine lv_iadd hx hb dX1_seek_61 ?_
                  refine lv_iload_n hx hb dX1_seek_62 rfl (lv_at hl 2 rfl) ?_
                  refine lv_aload_n hx hb dX1_seek_63 rfl (lv_at hl 0 rfl) ?_
                  refine gf_X1_20 F hP dX1_seek_64 ?_
                  refine gf_X1_49 F hP dX1_seek_67 ?_
                  refine lv_iload_n hx hb dX1_seek_70 rfl (lv_at hl 1 rfl) ?_
                  obtain ⟨h71, hG⟩ := f_gd hG
                  have i71 := f_fin h71
                  refine x_iald F hP rfl rfl i71 dX1_seek_71 ?_
                  refine lv_iload hx hb dX1_seek_72 (lv_at hl 4 rfl) ?_
                  refine lv_imul hx hb dX1_seek_74 ?_
                  refine lv_iload hx hb dX1_seek_75 (lv_at hl 4 rfl) ?_
                  refine lv_imul hx hb dX1_seek_77 ?_
                  refine lv_iadd hx hb dX1_seek_78 ?_
                  refine lv_iload_n hx hb dX1_seek_79 rfl (lv_at hl 3 rfl) ?_
                  refine lv_iload hx hb dX1_seek_80 (lv_at hl 4 rfl) ?_
                  obtain ⟨r82, σ82, hC82, hG⟩ := f_bd hG
                  refine iv_X1_52 F hS hP (c_J9_max_7cf53 l E N a3 x34_4 σ57 _ _ hC82) ⟨by show 0 + 1 ≤ 2 + (d + 1); omega, by show 8 + (2 + 11) + 0 ≤ 87 + 24 * (d + 1); omega⟩ hl.1 (Nat.le_of_ble_eq_true rfl) dX1_seek_82 ⟨Nat.zero_le _, Nat.zero_le _⟩ (fun H locs hP hS => ?_)
                  obtain ⟨σ85, hC85, hG⟩ := f_bv hG
                  refine iv_X1_42 (d := d) F hS hP (ih (a1 + (1 : Int32)) (a2 + (((σ57.1 17 (a1).toNatClampNeg) * x34_4) * x34_4)) r82 σ82 _ hC85) (rm_seek_ok d) hl.1 (Nat.le_of_ble_eq_true rfl) dX1_seek_85 ⟨Nat.zero_le _, Nat.zero_le _⟩ (fun H locs hP hS => ?_)
                  refine lv_iinc (v := (x34_4 + (1 : Int32))) (lv' := [(4, .int (x34_4 + (1 : Int32))), (0, .ref (E.2.1 18)), (1, .int a1), (2, .int a2), (3, .int a3)]) hx hb dX1_seek_88 hl (k := 4) rfl (by rfl) (by decide) rfl (fun ls hl => ?_)
                  refine lv_goto (tgt := 34) hx hb dX1_seek_91 (by decide) ?_
                  exact ih34 (x34_4 + (1 : Int32)) σ85 _ _ _ hP hS (lv_sub hl [1, 2, 3, 4, 0] rfl) hG
          exact L34 N (0 : Int32) σ _ _ _ hP hS (lv_sub hl [1, 2, 3, 4, 0] rfl) hT34
        · have hG := f_in c20 hG
          refine lv_aload_n hx hb dX1_seek_23 rfl (lv_at hl 0 rfl) ?_
          refine lv_iload_n hx hb dX1_seek_24 rfl (lv_at hl 1 rfl) ?_
          refine lv_iload_n hx hb dX1_seek_25 rfl (lv_at hl 2 rfl) ?_
          refine lv_iload_n hx hb dX1_seek_26 rfl (lv_at hl 3 rfl) ?_
          obtain ⟨σ27, hC27, hG⟩ := f_bv hG
          refine iv_X1_46 F hS hP (c_X1_finish l E N a1 a2 a3 σ _ hC27) ⟨by show 1 + 1 ≤ 2 + (d + 1); omega, by show 8 + (8 + 11) + 60 ≤ 87 + 24 * (d + 1); omega⟩ hl.1 (Nat.le_of_ble_eq_true rfl) dX1_seek_27 ⟨Nat.zero_le _, Nat.zero_le _⟩ (fun H locs hP hS => ?_)
          exact x_rv hR hS hP hG dX1_seek_30
      · have hG := f_in c6 hG
        exact x_rv hR hS hP hG dX1_seek_9
theorem dX1_find_0 : decode cX1_find 0 = .ok (.aload_n 0, 1) := by decide +kernel
theorem dX1_find_1 : decode cX1_find 1 = .ok (.iload_n 1, 1) := by decide +kernel
theorem dX1_find_2 : decode cX1_find 2 = .ok (.putfield 24, 3) := by decide +kernel
theorem dX1_find_5 : decode cX1_find 5 = .ok (.aload_n 0, 1) := by decide +kernel
theorem dX1_find_6 : decode cX1_find 6 = .ok (.iload_n 2, 1) := by decide +kernel
theorem dX1_find_7 : decode cX1_find 7 = .ok (.putfield 28, 3) := by decide +kernel
theorem dX1_find_10 : decode cX1_find 10 = .ok (.aload_n 0, 1) := by decide +kernel
theorem dX1_find_11 : decode cX1_find 11 = .ok (.iconst 0, 1) := by decide +kernel
theorem dX1_find_12 : decode cX1_find 12 = .ok (.putfield 32, 3) := by decide +kernel
theorem dX1_find_15 : decode cX1_find 15 = .ok (.aload_n 0, 1) := by decide +kernel
theorem dX1_find_16 : decode cX1_find 16 = .ok (.getfield 20, 3) := by decide +kernel
theorem dX1_find_19 : decode cX1_find 19 = .ok (.getfield 35, 3) := by decide +kernel
theorem dX1_find_22 : decode cX1_find 22 = .ok (.ifCond .le 20, 3) := by decide +kernel
theorem dX1_find_25 : decode cX1_find 25 = .ok (.aload_n 0, 1) := by decide +kernel
theorem dX1_find_26 : decode cX1_find 26 = .ok (.getfield 20, 3) := by decide +kernel
theorem dX1_find_29 : decode cX1_find 29 = .ok (.invokevirtual 38, 3) := by decide +kernel
theorem dX1_find_32 : decode cX1_find 32 = .ok (.ifCond .ne 10, 3) := by decide +kernel
theorem dX1_find_35 : decode cX1_find 35 = .ok (.aload_n 0, 1) := by decide +kernel
theorem dX1_find_36 : decode cX1_find 36 = .ok (.iconst 0, 1) := by decide +kernel
theorem dX1_find_37 : decode cX1_find 37 = .ok (.iconst 0, 1) := by decide +kernel
theorem dX1_find_38 : decode cX1_find 38 = .ok (.iconst 0, 1) := by decide +kernel
theorem dX1_find_39 : decode cX1_find 39 = .ok (.invokevirtual 42, 3) := by decide +kernel
theorem dX1_find_42 : decode cX1_find 42 = .ok (.aload_n 0, 1) := by decide +kernel
theorem dX1_find_43 : decode cX1_find 43 = .ok (.getfield 32, 3) := by decide +kernel
theorem dX1_find_46 : decode cX1_find 46 = .ok (.ireturn, 1) := by decide +kernel
set_option maxHeartbeats 4000000 in
set_option maxRecDepth 100000 in
theorem c_X1_find (l : Launch) (E : fEv) (N : Nat) (a1 : Int32) (a2 : Int32) (σ : fS) (r : Int32) (τ : fS) (hG : g_X1_find N a1 a2 σ = some (r, τ)) : fM l E yX1_find (.code yX1_find cX1_find 3 (some .boolean)) rm_X1_find [.ref (E.2.1 18), .int a1, .int a2] σ τ (some (.int r)) := by
  refine f_openZ (by decide) (Nat.le_of_ble_eq_true rfl) ?_
  intro p e s m below meth c args Q F hR hP ls hl
  have hx := F.1.1
  have hb := F.1.2.1
  have hown := F.1.2.2.2.1
  have hts := F.1.2.2.2.2
  have hS : va_S (f_A E) s.heap s.heap [] := va_S.rf
  skip
  have hl : lv_has ls 3 [(0, .ref (E.2.1 18)), (1, .int a1), (2, .int a2)] := hl
  unfold g_X1_find at hG
  refine lv_aload_n hx hb dX1_find_0 rfl (lv_at hl 0 rfl) ?_
  refine lv_iload_n hx hb dX1_find_1 rfl (lv_at hl 1 rfl) ?_
  refine pf_X1_24 F hS hP dX1_find_2 (fun H locs hP hS => ?_)
  obtain ⟨σ2, e2⟩ : ∃ t : fS, t = sI σ 18 3 a1 := ⟨_, rfl⟩
  rw [← e2] at hP
  have hG := f_lt hG e2
  refine lv_aload_n hx hb dX1_find_5 rfl (lv_at hl 0 rfl) ?_
  refine lv_iload_n hx hb dX1_find_6 rfl (lv_at hl 2 rfl) ?_
  obtain ⟨h7, hG⟩ := f_gd hG
  refine pf_X1_28 F hS hP (f_isB h7) dX1_find_7 (fun H locs hP hS => ?_)
  obtain ⟨σ7, e7⟩ : ∃ t : fS, t = sI σ2 18 4 a2 := ⟨_, rfl⟩
  rw [← e7] at hP
  have hG := f_lt hG e7
  refine lv_aload_n hx hb dX1_find_10 rfl (lv_at hl 0 rfl) ?_
  refine lv_iconst (v := 0) hx hb dX1_find_11 (by decide) ?_
  refine pf_X1_32 F hS hP (Or.inl rfl) dX1_find_12 (fun H locs hP hS => ?_)
  obtain ⟨σ12, e12⟩ : ∃ t : fS, t = sI σ7 18 5 (0 : Int32) := ⟨_, rfl⟩
  rw [← e12] at hP
  have hG := f_lt hG e12
  refine lv_aload_n hx hb dX1_find_15 rfl (lv_at hl 0 rfl) ?_
  refine gf_X1_20 F hP dX1_find_16 ?_
  refine gf_X1_35 F hP dX1_find_19 ?_
  refine lv_if_le (tgt := 42) hx hb dX1_find_22 (by decide) (fun c22 => ?_) (fun c22 => ?_)
  · have hG := f_ip c22 hG
    refine lv_aload_n hx hb dX1_find_42 rfl (lv_at hl 0 rfl) ?_
    refine gf_X1_32 F hP dX1_find_43 ?_
    obtain ⟨h46, hG⟩ := f_gd hG
    exact x_rz hR hS hP (f_isB h46) hG dX1_find_46
  · have hG := f_in c22 hG
    refine lv_aload_n hx hb dX1_find_25 rfl (lv_at hl 0 rfl) ?_
    refine gf_X1_20 F hP dX1_find_26 ?_
    obtain ⟨r29, σ29, hC29, hG⟩ := f_bd hG
    refine iv_X1_38 F hS hP (c_X6_bars l E N σ12 _ _ hC29) ⟨Nat.le_of_ble_eq_true rfl, Nat.le_of_ble_eq_true rfl⟩ hl.1 (Nat.le_of_ble_eq_true rfl) dX1_find_29 ⟨Nat.zero_le _, Nat.zero_le _⟩ (fun H locs hP hS => ?_)
    refine lv_if_ne (tgt := 42) hx hb dX1_find_32 (by decide) (fun c32 => ?_) (fun c32 => ?_)
    · have hG := f_in c32 hG
      refine lv_aload_n hx hb dX1_find_42 rfl (lv_at hl 0 rfl) ?_
      refine gf_X1_32 F hP dX1_find_43 ?_
      obtain ⟨h46, hG⟩ := f_gd hG
      exact x_rz hR hS hP (f_isB h46) hG dX1_find_46
    · have hG := f_ip c32 hG
      refine lv_aload_n hx hb dX1_find_35 rfl (lv_at hl 0 rfl) ?_
      refine lv_iconst (v := 0) hx hb dX1_find_36 (by decide) ?_
      refine lv_iconst (v := 0) hx hb dX1_find_37 (by decide) ?_
      refine lv_iconst (v := 0) hx hb dX1_find_38 (by decide) ?_
      obtain ⟨σ39, hC39, hG⟩ := f_bv hG
      refine iv_X1_42 (d := 6) F hS hP (c_X1_seek l E N 6 (0 : Int32) (0 : Int32) (0 : Int32) σ29 _ hC39) ⟨Nat.le_of_ble_eq_true rfl, Nat.le_of_ble_eq_true rfl⟩ hl.1 (Nat.le_of_ble_eq_true rfl) dX1_find_39 ⟨Nat.zero_le _, Nat.zero_le _⟩ (fun H locs hP hS => ?_)
      refine lv_aload_n hx hb dX1_find_42 rfl (lv_at hl 0 rfl) ?_
      refine gf_X1_32 F hP dX1_find_43 ?_
      obtain ⟨h46, hG⟩ := f_gd hG
      exact x_rz hR hS hP (f_isB h46) hG dX1_find_46
theorem dX1_numberAt_0 : decode cX1_numberAt 0 = .ok (.iload_n 1, 1) := by decide +kernel
theorem dX1_numberAt_1 : decode cX1_numberAt 1 = .ok (.ifCond .lt 21, 3) := by decide +kernel
theorem dX1_numberAt_4 : decode cX1_numberAt 4 = .ok (.iload_n 1, 1) := by decide +kernel
theorem dX1_numberAt_5 : decode cX1_numberAt 5 = .ok (.aload_n 0, 1) := by decide +kernel
theorem dX1_numberAt_6 : decode cX1_numberAt 6 = .ok (.getfield 17, 3) := by decide +kernel
theorem dX1_numberAt_9 : decode cX1_numberAt 9 = .ok (.arraylength, 1) := by decide +kernel
theorem dX1_numberAt_10 : decode cX1_numberAt 10 = .ok (.if_icmp .ge 12, 3) := by decide +kernel
theorem dX1_numberAt_13 : decode cX1_numberAt 13 = .ok (.aload_n 0, 1) := by decide +kernel
theorem dX1_numberAt_14 : decode cX1_numberAt 14 = .ok (.getfield 17, 3) := by decide +kernel
theorem dX1_numberAt_17 : decode cX1_numberAt 17 = .ok (.iload_n 1, 1) := by decide +kernel
theorem dX1_numberAt_18 : decode cX1_numberAt 18 = .ok (.iaload, 1) := by decide +kernel
theorem dX1_numberAt_19 : decode cX1_numberAt 19 = .ok (.goto 4, 3) := by decide +kernel
theorem dX1_numberAt_22 : decode cX1_numberAt 22 = .ok (.iconst 0, 1) := by decide +kernel
theorem dX1_numberAt_23 : decode cX1_numberAt 23 = .ok (.ireturn, 1) := by decide +kernel
set_option maxHeartbeats 4000000 in
set_option maxRecDepth 100000 in
theorem c_X1_numberAt (l : Launch) (E : fEv) (N : Nat) (a1 : Int32) (σ : fS) (r : Int32) (τ : fS) (hG : g_X1_numberAt N a1 σ = some (r, τ)) : fM l E yX1_numberAt (.code yX1_numberAt cX1_numberAt 2 (some .int)) rm_X1_numberAt [.ref (E.2.1 18), .int a1] σ τ (some (.int r)) := by
  refine f_openI (by decide) (Nat.le_of_ble_eq_true rfl) ?_
  intro p e s m below meth c args Q F hR hP ls hl
  have hx := F.1.1
  have hb := F.1.2.1
  have hown := F.1.2.2.2.1
  have hts := F.1.2.2.2.2
  have hS : va_S (f_A E) s.heap s.heap [] := va_S.rf
  skip
  have hl : lv_has ls 2 [(0, .ref (E.2.1 18)), (1, .int a1)] := hl
  unfold g_X1_numberAt at hG
  refine lv_iload_n hx hb dX1_numberAt_0 rfl (lv_at hl 1 rfl) ?_
  refine lv_if_lt (tgt := 22) hx hb dX1_numberAt_1 (by decide) (fun c1 => ?_) (fun c1 => ?_)
  · have hG := f_ip c1 hG
    refine lv_iconst (v := 0) hx hb dX1_numberAt_22 (by decide) ?_
    exact x_ri hR hS hP hG dX1_numberAt_23
  · have hG := f_in c1 hG
    refine lv_iload_n hx hb dX1_numberAt_4 rfl (lv_at hl 1 rfl) ?_
    refine lv_aload_n hx hb dX1_numberAt_5 rfl (lv_at hl 0 rfl) ?_
    refine gf_X1_17 F hP dX1_numberAt_6 ?_
    refine x_alen (v := 5) F hP rfl rfl rfl dX1_numberAt_9 ?_
    refine lv_icmp_ge (tgt := 22) hx hb dX1_numberAt_10 (by decide) (fun c10 => ?_) (fun c10 => ?_)
    · have hG := f_ip c10 hG
      refine lv_iconst (v := 0) hx hb dX1_numberAt_22 (by decide) ?_
      exact x_ri hR hS hP hG dX1_numberAt_23
    · have hG := f_in c10 hG
      refine lv_aload_n hx hb dX1_numberAt_13 rfl (lv_at hl 0 rfl) ?_
      refine gf_X1_17 F hP dX1_numberAt_14 ?_
      refine lv_iload_n hx hb dX1_numberAt_17 rfl (lv_at hl 1 rfl) ?_
      obtain ⟨h18, hG⟩ := f_gd hG
      have i18 := f_fin h18
      refine x_iald F hP rfl rfl i18 dX1_numberAt_18 ?_
      refine lv_goto (tgt := 23) hx hb dX1_numberAt_19 (by decide) ?_
      exact x_ri hR hS hP hG dX1_numberAt_23
theorem dX2_kindOf_0 : decode cX2_kindOf 0 = .ok (.iload_n 0, 1) := by decide +kernel
theorem dX2_kindOf_1 : decode cX2_kindOf 1 = .ok (.ifCond .ge 7, 3) := by decide +kernel
theorem dX2_kindOf_4 : decode cX2_kindOf 4 = .ok (.iconst 1, 1) := by decide +kernel
theorem dX2_kindOf_5 : decode cX2_kindOf 5 = .ok (.goto 4, 3) := by decide +kernel
theorem dX2_kindOf_8 : decode cX2_kindOf 8 = .ok (.iconst 0, 1) := by decide +kernel
theorem dX2_kindOf_9 : decode cX2_kindOf 9 = .ok (.istore_n 1, 1) := by decide +kernel
theorem dX2_kindOf_10 : decode cX2_kindOf 10 = .ok (.iload_n 0, 1) := by decide +kernel
theorem dX2_kindOf_11 : decode cX2_kindOf 11 = .ok (.istore_n 2, 1) := by decide +kernel
theorem dX2_kindOf_12 : decode cX2_kindOf 12 = .ok (.iconst 1, 1) := by decide +kernel
theorem dX2_kindOf_13 : decode cX2_kindOf 13 = .ok (.istore_n 3, 1) := by decide +kernel
theorem dX2_kindOf_14 : decode cX2_kindOf 14 = .ok (.iload_n 3, 1) := by decide +kernel
theorem dX2_kindOf_15 : decode cX2_kindOf 15 = .ok (.getstatic 9, 3) := by decide +kernel
theorem dX2_kindOf_18 : decode cX2_kindOf 18 = .ok (.arraylength, 1) := by decide +kernel
theorem dX2_kindOf_19 : decode cX2_kindOf 19 = .ok (.if_icmp .ge 54, 3) := by decide +kernel
theorem dX2_kindOf_22 : decode cX2_kindOf 22 = .ok (.getstatic 9, 3) := by decide +kernel
theorem dX2_kindOf_25 : decode cX2_kindOf 25 = .ok (.iload_n 3, 1) := by decide +kernel
theorem dX2_kindOf_26 : decode cX2_kindOf 26 = .ok (.iaload, 1) := by decide +kernel
theorem dX2_kindOf_27 : decode cX2_kindOf 27 = .ok (.istore 4, 2) := by decide +kernel
theorem dX2_kindOf_29 : decode cX2_kindOf 29 = .ok (.iconst 0, 1) := by decide +kernel
theorem dX2_kindOf_30 : decode cX2_kindOf 30 = .ok (.istore 5, 2) := by decide +kernel
theorem dX2_kindOf_32 : decode cX2_kindOf 32 = .ok (.iload 5, 2) := by decide +kernel
theorem dX2_kindOf_34 : decode cX2_kindOf 34 = .ok (.bipush 31, 2) := by decide +kernel
theorem dX2_kindOf_36 : decode cX2_kindOf 36 = .ok (.if_icmp .ge 31, 3) := by decide +kernel
theorem dX2_kindOf_39 : decode cX2_kindOf 39 = .ok (.iload_n 2, 1) := by decide +kernel
theorem dX2_kindOf_40 : decode cX2_kindOf 40 = .ok (.ifCond .eq 27, 3) := by decide +kernel
theorem dX2_kindOf_43 : decode cX2_kindOf 43 = .ok (.iload_n 2, 1) := by decide +kernel
theorem dX2_kindOf_44 : decode cX2_kindOf 44 = .ok (.iload 4, 2) := by decide +kernel
theorem dX2_kindOf_46 : decode cX2_kindOf 46 = .ok (.irem, 1) := by decide +kernel
theorem dX2_kindOf_47 : decode cX2_kindOf 47 = .ok (.ifCond .ne 20, 3) := by decide +kernel
theorem dX2_kindOf_50 : decode cX2_kindOf 50 = .ok (.iload_n 2, 1) := by decide +kernel
theorem dX2_kindOf_51 : decode cX2_kindOf 51 = .ok (.iload 4, 2) := by decide +kernel
theorem dX2_kindOf_53 : decode cX2_kindOf 53 = .ok (.idiv, 1) := by decide +kernel
theorem dX2_kindOf_54 : decode cX2_kindOf 54 = .ok (.istore_n 2, 1) := by decide +kernel
theorem dX2_kindOf_55 : decode cX2_kindOf 55 = .ok (.iload_n 1, 1) := by decide +kernel
theorem dX2_kindOf_56 : decode cX2_kindOf 56 = .ok (.iconst 1, 1) := by decide +kernel
theorem dX2_kindOf_57 : decode cX2_kindOf 57 = .ok (.iload_n 3, 1) := by decide +kernel
theorem dX2_kindOf_58 : decode cX2_kindOf 58 = .ok (.ishl, 1) := by decide +kernel
theorem dX2_kindOf_59 : decode cX2_kindOf 59 = .ok (.ixor, 1) := by decide +kernel
theorem dX2_kindOf_60 : decode cX2_kindOf 60 = .ok (.istore_n 1, 1) := by decide +kernel
theorem dX2_kindOf_61 : decode cX2_kindOf 61 = .ok (.iinc 5 1, 3) := by decide +kernel
theorem dX2_kindOf_64 : decode cX2_kindOf 64 = .ok (.goto (-32), 3) := by decide +kernel
theorem dX2_kindOf_67 : decode cX2_kindOf 67 = .ok (.iinc 3 1, 3) := by decide +kernel
theorem dX2_kindOf_70 : decode cX2_kindOf 70 = .ok (.goto (-56), 3) := by decide +kernel
theorem dX2_kindOf_73 : decode cX2_kindOf 73 = .ok (.iload_n 1, 1) := by decide +kernel
theorem dX2_kindOf_74 : decode cX2_kindOf 74 = .ok (.ireturn, 1) := by decide +kernel
set_option maxHeartbeats 4000000 in
set_option maxRecDepth 100000 in
theorem c_X2_kindOf (l : Launch) (E : fEv) (N : Nat) (a0 : Int32) (σ : fS) (r : Int32) (τ : fS) (hG : g_X2_kindOf N a0 σ = some (r, τ)) : fM l E yX2_kindOf (.code yX2_kindOf cX2_kindOf 6 (some .int)) rm_X2_kindOf [.int a0] σ τ (some (.int r)) := by
  refine f_openI (by decide) (Nat.le_of_ble_eq_true rfl) ?_
  intro p e s m below meth c args Q F hR hP ls hl
  have hx := F.1.1
  have hb := F.1.2.1
  have hown := F.1.2.2.2.1
  have hts := F.1.2.2.2.2
  have hS : va_S (f_A E) s.heap s.heap [] := va_S.rf
  skip
  have hl : lv_has ls 6 [(0, .int a0)] := hl
  unfold g_X2_kindOf at hG
  refine lv_iload_n hx hb dX2_kindOf_0 rfl (lv_at hl 0 rfl) ?_
  obtain ⟨o1, σj1, hT1, hG⟩ := f_bd hG
  have T1 : ∀ (H : Heap) (locs : List Loc) (ls : Array Slot), f_h E σj1 H → va_S (f_A E) s.heap H locs → lv_has ls 6 [(0, .int a0)] → W p l e rm_X2_kindOf s m args below meth c H locs 0 0 Q (F0 m 9 ls [.int o1]) := by
    intro H locs ls hP hS hl
    refine lv_istore_n (lv' := [(1, .int o1), (0, .int a0)]) hx hb dX2_kindOf_9 rfl hl (by decide) rfl (fun ls hl => ?_)
    refine lv_iload_n hx hb dX2_kindOf_10 rfl (lv_at hl 1 rfl) ?_
    refine lv_istore_n (lv' := [(2, .int a0), (1, .int o1), (0, .int a0)]) hx hb dX2_kindOf_11 rfl hl (by decide) rfl (fun ls hl => ?_)
    refine lv_iconst (v := 1) hx hb dX2_kindOf_12 (by decide) ?_
    refine lv_istore_n (lv' := [(3, .int (1 : Int32)), (2, .int a0), (1, .int o1), (0, .int a0)]) hx hb dX2_kindOf_13 rfl hl (by decide) rfl (fun ls hl => ?_)
    obtain ⟨o14, σl14, hT14, hG⟩ := f_bd hG
    have T14 : ∀ (H : Heap) (locs : List Loc) (ls : Array Slot), f_h E σl14 H → va_S (f_A E) s.heap H locs → lv_has ls 6 [(1, .int o14)] → W p l e rm_X2_kindOf s m args below meth c H locs 0 0 Q (F0 m 73 ls []) := by
      intro H locs ls hP hS hl
      refine lv_iload_n hx hb dX2_kindOf_73 rfl (lv_at hl 0 rfl) ?_
      exact x_ri hR hS hP hG dX2_kindOf_74
    have L14 : ∀ (n14 : Nat) (x14_1 : Int32) (x14_2 : Int32) (x14_3 : Int32) (σh14 : fS) (H : Heap) (locs : List Loc) (ls : Array Slot), f_h E σh14 H → va_S (f_A E) s.heap H locs → lv_has ls 6 [(1, .int x14_1), (2, .int x14_2), (3, .int x14_3)] → lp_X2_kindOf_14 N n14 x14_1 x14_2 x14_3 σh14 = some (o14, σl14) → W p l e rm_X2_kindOf s m args below meth c H locs 0 0 Q (F0 m 14 ls []) := by
      intro n14
      induction n14 with
      | zero =>
        intro x14_1 x14_2 x14_3 σh14 H locs ls hP hS hl hG
        rw [lp_X2_kindOf_14] at hG
        cases hG
      | succ n14 ih14 =>
        intro x14_1 x14_2 x14_3 σh14 H locs ls hP hS hl hG
        rw [lp_X2_kindOf_14] at hG
        refine lv_iload_n hx hb dX2_kindOf_14 rfl (lv_at hl 2 rfl) ?_
        refine x_gnB2 F hS dX2_kindOf_15 ?_
        refine x_slB F hS dX2_kindOf_18 ?_
        refine lv_icmp_ge (tgt := 73) hx hb dX2_kindOf_19 (by decide) (fun c19 => ?_) (fun c19 => ?_)
        · have hG := f_ip c19 hG
          cases hG
          exact T14 _ _ _ hP hS (lv_sub hl [0] rfl)
        · have hG := f_in c19 hG
          refine x_gnB2 F hS dX2_kindOf_22 ?_
          refine lv_iload_n hx hb dX2_kindOf_25 rfl (lv_at hl 2 rfl) ?_
          obtain ⟨h26, hG⟩ := f_gd hG
          have i26 := f_fin h26
          refine x_sdB F hS i26 dX2_kindOf_26 ?_
          refine lv_topi (fun v27 e27 => ?_)
          have hG := f_lt hG e27
          refine lv_istore (lv' := [(4, .int v27), (1, .int x14_1), (2, .int x14_2), (3, .int x14_3)]) hx hb dX2_kindOf_27 hl (by decide) rfl (fun ls hl => ?_)
          refine lv_iconst (v := 0) hx hb dX2_kindOf_29 (by decide) ?_
          refine lv_istore (lv' := [(5, .int (0 : Int32)), (4, .int v27), (1, .int x14_1), (2, .int x14_2), (3, .int x14_3)]) hx hb dX2_kindOf_30 hl (by decide) rfl (fun ls hl => ?_)
          obtain ⟨o32, σl32, hT32, hG⟩ := f_bd hG
          have T32 : ∀ (H : Heap) (locs : List Loc) (ls : Array Slot), f_h E σl32 H → va_S (f_A E) s.heap H locs → lv_has ls 6 [(1, .int o32.1), (2, .int o32.2), (3, .int x14_3)] → W p l e rm_X2_kindOf s m args below meth c H locs 0 0 Q (F0 m 67 ls []) := by
            intro H locs ls hP hS hl
            refine lv_iinc (v := (x14_3 + (1 : Int32))) (lv' := [(3, .int (x14_3 + (1 : Int32))), (1, .int o32.1), (2, .int o32.2)]) hx hb dX2_kindOf_67 hl (k := 2) rfl (by rfl) (by decide) rfl (fun ls hl => ?_)
            refine lv_goto (tgt := 14) hx hb dX2_kindOf_70 (by decide) ?_
            exact ih14 o32.1 o32.2 (x14_3 + (1 : Int32)) σl32 _ _ _ hP hS (lv_sub hl [1, 2, 0] rfl) hG
          have L32 : ∀ (n32 : Nat) (x32_1 : Int32) (x32_2 : Int32) (x32_5 : Int32) (σh32 : fS) (H : Heap) (locs : List Loc) (ls : Array Slot), f_h E σh32 H → va_S (f_A E) s.heap H locs → lv_has ls 6 [(1, .int x32_1), (2, .int x32_2), (3, .int x14_3), (4, .int v27), (5, .int x32_5)] → lp_X2_kindOf_32 N x14_3 v27 n32 x32_1 x32_2 x32_5 σh32 = some (o32, σl32) → W p l e rm_X2_kindOf s m args below meth c H locs 0 0 Q (F0 m 32 ls []) := by
            intro n32
            induction n32 with
            | zero =>
              intro x32_1 x32_2 x32_5 σh32 H locs ls hP hS hl hG
              rw [lp_X2_kindOf_32] at hG
              cases hG
            | succ n32 ih32 =>
              intro x32_1 x32_2 x32_5 σh32 H locs ls hP hS hl hG
              rw [lp_X2_kindOf_32] at hG
              refine lv_iload hx hb dX2_kindOf_32 (lv_at hl 4 rfl) ?_
              refine lv_bipush (v := 31) hx hb dX2_kindOf_34 (by decide) ?_
              refine lv_icmp_ge (tgt := 67) hx hb dX2_kindOf_36 (by decide) (fun c36 => ?_) (fun c36 => ?_)
              · have hG := f_ip c36 hG
                cases hG
                exact T32 _ _ _ hP hS (lv_sub hl [0, 1, 2] rfl)
              · have hG := f_in c36 hG
                refine lv_iload_n hx hb dX2_kindOf_39 rfl (lv_at hl 1 rfl) ?_
                refine lv_if_eq (tgt := 67) hx hb dX2_kindOf_40 (by decide) (fun c40 => ?_) (fun c40 => ?_)
                · have hG := f_ip c40 hG
                  cases hG
                  exact T32 _ _ _ hP hS (lv_sub hl [0, 1, 2] rfl)
                · have hG := f_in c40 hG
                  refine lv_iload_n hx hb dX2_kindOf_43 rfl (lv_at hl 1 rfl) ?_
                  refine lv_iload hx hb dX2_kindOf_44 (lv_at hl 3 rfl) ?_
                  obtain ⟨h46, hG⟩ := f_gd hG
                  refine x_irem F dX2_kindOf_46 (f_nz h46) ?_
                  refine lv_if_ne (tgt := 67) hx hb dX2_kindOf_47 (by decide) (fun c47 => ?_) (fun c47 => ?_)
                  · have hG := f_in c47 hG
                    cases hG
                    exact T32 _ _ _ hP hS (lv_sub hl [0, 1, 2] rfl)
                  · have hG := f_ip c47 hG
                    refine lv_iload_n hx hb dX2_kindOf_50 rfl (lv_at hl 1 rfl) ?_
                    refine lv_iload hx hb dX2_kindOf_51 (lv_at hl 3 rfl) ?_
                    obtain ⟨h53, hG⟩ := f_gd hG
                    refine lv_idiv hx hb dX2_kindOf_53 (f_nz h53) ?_
                    refine lv_topi (fun v54 e54 => ?_)
                    have hG := f_lt hG e54
                    refine lv_istore_n (lv' := [(2, .int v54), (1, .int x32_1), (3, .int x14_3), (4, .int v27), (5, .int x32_5)]) hx hb dX2_kindOf_54 rfl hl (by decide) rfl (fun ls hl => ?_)
                    refine lv_iload_n hx hb dX2_kindOf_55 rfl (lv_at hl 1 rfl) ?_
                    refine lv_iconst (v := 1) hx hb dX2_kindOf_56 (by decide) ?_
                    refine lv_iload_n hx hb dX2_kindOf_57 rfl (lv_at hl 2 rfl) ?_
                    refine lv_ishl hx hb dX2_kindOf_58 ?_
                    refine lv_ixor hx hb dX2_kindOf_59 ?_
                    refine lv_topi (fun v60 e60 => ?_)
                    have hG := f_lt hG e60
                    refine lv_istore_n (lv' := [(1, .int v60), (2, .int v54), (3, .int x14_3), (4, .int v27), (5, .int x32_5)]) hx hb dX2_kindOf_60 rfl hl (by decide) rfl (fun ls hl => ?_)
                    refine lv_iinc (v := (x32_5 + (1 : Int32))) (lv' := [(5, .int (x32_5 + (1 : Int32))), (1, .int v60), (2, .int v54), (3, .int x14_3), (4, .int v27)]) hx hb dX2_kindOf_61 hl (k := 4) rfl (by rfl) (by decide) rfl (fun ls hl => ?_)
                    refine lv_goto (tgt := 32) hx hb dX2_kindOf_64 (by decide) ?_
                    exact ih32 v60 v54 (x32_5 + (1 : Int32)) σh32 _ _ _ hP hS (lv_sub hl [1, 2, 3, 4, 0] rfl) hG
          exact L32 N x14_1 x14_2 (0 : Int32) σh14 _ _ _ hP hS (lv_sub hl [2, 3, 4, 1, 0] rfl) hT32
    exact L14 N o1 a0 (1 : Int32) σj1 _ _ _ hP hS (lv_sub hl [2, 1, 0] rfl) hT14
  have hG := hT1
  clear hT1
  refine lv_if_ge (tgt := 8) hx hb dX2_kindOf_1 (by decide) (fun c1 => ?_) (fun c1 => ?_)
  · have hG := f_ip c1 hG
    refine lv_iconst (v := 0) hx hb dX2_kindOf_8 (by decide) ?_
    cases hG
    exact T1 _ _ _ hP hS (lv_sub hl [0] rfl)
  · have hG := f_in c1 hG
    refine lv_iconst (v := 1) hx hb dX2_kindOf_4 (by decide) ?_
    refine lv_goto (tgt := 9) hx hb dX2_kindOf_5 (by decide) ?_
    cases hG
    exact T1 _ _ _ hP hS (lv_sub hl [0] rfl)
theorem dJ9_abs_0f7a4_0 : decode cJ9_abs_0f7a4 0 = .ok (.iload_n 0, 1) := by decide +kernel
theorem dJ9_abs_0f7a4_1 : decode cJ9_abs_0f7a4 1 = .ok (.ifCond .ge 8, 3) := by decide +kernel
theorem dJ9_abs_0f7a4_4 : decode cJ9_abs_0f7a4 4 = .ok (.iload_n 0, 1) := by decide +kernel
theorem dJ9_abs_0f7a4_5 : decode cJ9_abs_0f7a4 5 = .ok (.ineg, 1) := by decide +kernel
theorem dJ9_abs_0f7a4_6 : decode cJ9_abs_0f7a4 6 = .ok (.goto 4, 3) := by decide +kernel
theorem dJ9_abs_0f7a4_9 : decode cJ9_abs_0f7a4 9 = .ok (.iload_n 0, 1) := by decide +kernel
theorem dJ9_abs_0f7a4_10 : decode cJ9_abs_0f7a4 10 = .ok (.ireturn, 1) := by decide +kernel
set_option maxHeartbeats 4000000 in
set_option maxRecDepth 100000 in
theorem c_J9_abs_0f7a4 (l : Launch) (E : fEv) (N : Nat) (a0 : Int32) (σ : fS) (r : Int32) (τ : fS) (hG : g_J9_abs_0f7a4 N a0 σ = some (r, τ)) : fM l E yJ9_abs_0f7a4 (.code yJ9_abs_0f7a4 cJ9_abs_0f7a4 1 (some .int)) rm_J9_abs_0f7a4 [.int a0] σ τ (some (.int r)) := by
  refine f_openM (by decide +kernel) (Nat.le_of_ble_eq_true rfl) ?_
  intro p e s m below meth c args Q F hR hP ls hl
  have hx := F.1.1
  have hb := F.1.2.1
  have hown := F.1.2.2.2.1
  have hts := F.1.2.2.2.2
  have hS : va_S (f_A E) s.heap s.heap [] := va_S.rf
  skip
  have hl : lv_has ls 1 [(0, .int a0)] := hl
  unfold g_J9_abs_0f7a4 at hG
  refine lv_iload_n hx hb dJ9_abs_0f7a4_0 rfl (lv_at hl 0 rfl) ?_
  refine lv_if_ge (tgt := 9) hx hb dJ9_abs_0f7a4_1 (by decide) (fun c1 => ?_) (fun c1 => ?_)
  · have hG := f_ip c1 hG
    refine lv_iload_n hx hb dJ9_abs_0f7a4_9 rfl (lv_at hl 0 rfl) ?_
    exact x_ri hR hS hP hG dJ9_abs_0f7a4_10
  · have hG := f_in c1 hG
    refine lv_iload_n hx hb dJ9_abs_0f7a4_4 rfl (lv_at hl 0 rfl) ?_
    refine lv_ineg hx hb dJ9_abs_0f7a4_5 ?_
    refine lv_goto (tgt := 10) hx hb dJ9_abs_0f7a4_6 (by decide) ?_
    exact x_ri hR hS hP hG dJ9_abs_0f7a4_10
theorem dX2_roughPart_0 : decode cX2_roughPart 0 = .ok (.iload_n 0, 1) := by decide +kernel
theorem dX2_roughPart_1 : decode cX2_roughPart 1 = .ok (.invokestatic 15, 3) := by decide +kernel
theorem dX2_roughPart_4 : decode cX2_roughPart 4 = .ok (.istore_n 1, 1) := by decide +kernel
theorem dX2_roughPart_5 : decode cX2_roughPart 5 = .ok (.iconst 1, 1) := by decide +kernel
theorem dX2_roughPart_6 : decode cX2_roughPart 6 = .ok (.istore_n 2, 1) := by decide +kernel
theorem dX2_roughPart_7 : decode cX2_roughPart 7 = .ok (.iload_n 2, 1) := by decide +kernel
theorem dX2_roughPart_8 : decode cX2_roughPart 8 = .ok (.getstatic 9, 3) := by decide +kernel
theorem dX2_roughPart_11 : decode cX2_roughPart 11 = .ok (.arraylength, 1) := by decide +kernel
theorem dX2_roughPart_12 : decode cX2_roughPart 12 = .ok (.if_icmp .ge 45, 3) := by decide +kernel
theorem dX2_roughPart_15 : decode cX2_roughPart 15 = .ok (.getstatic 9, 3) := by decide +kernel
theorem dX2_roughPart_18 : decode cX2_roughPart 18 = .ok (.iload_n 2, 1) := by decide +kernel
theorem dX2_roughPart_19 : decode cX2_roughPart 19 = .ok (.iaload, 1) := by decide +kernel
theorem dX2_roughPart_20 : decode cX2_roughPart 20 = .ok (.istore_n 3, 1) := by decide +kernel
theorem dX2_roughPart_21 : decode cX2_roughPart 21 = .ok (.iconst 0, 1) := by decide +kernel
theorem dX2_roughPart_22 : decode cX2_roughPart 22 = .ok (.istore 4, 2) := by decide +kernel
theorem dX2_roughPart_24 : decode cX2_roughPart 24 = .ok (.iload 4, 2) := by decide +kernel
theorem dX2_roughPart_26 : decode cX2_roughPart 26 = .ok (.bipush 31, 2) := by decide +kernel
theorem dX2_roughPart_28 : decode cX2_roughPart 28 = .ok (.if_icmp .ge 23, 3) := by decide +kernel
theorem dX2_roughPart_31 : decode cX2_roughPart 31 = .ok (.iload_n 1, 1) := by decide +kernel
theorem dX2_roughPart_32 : decode cX2_roughPart 32 = .ok (.ifCond .eq 19, 3) := by decide +kernel
theorem dX2_roughPart_35 : decode cX2_roughPart 35 = .ok (.iload_n 1, 1) := by decide +kernel
theorem dX2_roughPart_36 : decode cX2_roughPart 36 = .ok (.iload_n 3, 1) := by decide +kernel
theorem dX2_roughPart_37 : decode cX2_roughPart 37 = .ok (.irem, 1) := by decide +kernel
theorem dX2_roughPart_38 : decode cX2_roughPart 38 = .ok (.ifCond .ne 13, 3) := by decide +kernel
theorem dX2_roughPart_41 : decode cX2_roughPart 41 = .ok (.iload_n 1, 1) := by decide +kernel
theorem dX2_roughPart_42 : decode cX2_roughPart 42 = .ok (.iload_n 3, 1) := by decide +kernel
theorem dX2_roughPart_43 : decode cX2_roughPart 43 = .ok (.idiv, 1) := by decide +kernel
theorem dX2_roughPart_44 : decode cX2_roughPart 44 = .ok (.istore_n 1, 1) := by decide +kernel
theorem dX2_roughPart_45 : decode cX2_roughPart 45 = .ok (.iinc 4 1, 3) := by decide +kernel
theorem dX2_roughPart_48 : decode cX2_roughPart 48 = .ok (.goto (-24), 3) := by decide +kernel
theorem dX2_roughPart_51 : decode cX2_roughPart 51 = .ok (.iinc 2 1, 3) := by decide +kernel
theorem dX2_roughPart_54 : decode cX2_roughPart 54 = .ok (.goto (-47), 3) := by decide +kernel
theorem dX2_roughPart_57 : decode cX2_roughPart 57 = .ok (.iload_n 1, 1) := by decide +kernel
theorem dX2_roughPart_58 : decode cX2_roughPart 58 = .ok (.ireturn, 1) := by decide +kernel
set_option maxHeartbeats 4000000 in
set_option maxRecDepth 100000 in
theorem c_X2_roughPart (l : Launch) (E : fEv) (N : Nat) (a0 : Int32) (σ : fS) (r : Int32) (τ : fS) (hG : g_X2_roughPart N a0 σ = some (r, τ)) : fM l E yX2_roughPart (.code yX2_roughPart cX2_roughPart 5 (some .int)) rm_X2_roughPart [.int a0] σ τ (some (.int r)) := by
  refine f_openI (by decide) (Nat.le_of_ble_eq_true rfl) ?_
  intro p e s m below meth c args Q F hR hP ls hl
  have hx := F.1.1
  have hb := F.1.2.1
  have hown := F.1.2.2.2.1
  have hts := F.1.2.2.2.2
  have hS : va_S (f_A E) s.heap s.heap [] := va_S.rf
  skip
  have hl : lv_has ls 5 [(0, .int a0)] := hl
  unfold g_X2_roughPart at hG
  refine lv_iload_n hx hb dX2_roughPart_0 rfl (lv_at hl 0 rfl) ?_
  obtain ⟨r1, σ1, hC1, hG⟩ := f_bd hG
  refine iv_X2_15 F hS hP (c_J9_abs_0f7a4 l E N a0 σ _ _ hC1) ⟨Nat.le_of_ble_eq_true rfl, Nat.le_of_ble_eq_true rfl⟩ hl.1 (Nat.le_of_ble_eq_true rfl) dX2_roughPart_1 ⟨Nat.zero_le _, Nat.zero_le _⟩ (fun H locs hP hS => ?_)
  refine lv_istore_n (lv' := [(1, .int r1), (0, .int a0)]) hx hb dX2_roughPart_4 rfl hl (by decide) rfl (fun ls hl => ?_)
  refine lv_iconst (v := 1) hx hb dX2_roughPart_5 (by decide) ?_
  refine lv_istore_n (lv' := [(2, .int (1 : Int32)), (1, .int r1), (0, .int a0)]) hx hb dX2_roughPart_6 rfl hl (by decide) rfl (fun ls hl => ?_)
  obtain ⟨o7, σl7, hT7, hG⟩ := f_bd hG
  have T7 : ∀ (H : Heap) (locs : List Loc) (ls : Array Slot), f_h E σl7 H → va_S (f_A E) s.heap H locs → lv_has ls 5 [(1, .int o7)] → W p l e rm_X2_roughPart s m args below meth c H locs 0 0 Q (F0 m 57 ls []) := by
    intro H locs ls hP hS hl
    refine lv_iload_n hx hb dX2_roughPart_57 rfl (lv_at hl 0 rfl) ?_
    exact x_ri hR hS hP hG dX2_roughPart_58
  have L7 : ∀ (n7 : Nat) (x7_1 : Int32) (x7_2 : Int32) (σh7 : fS) (H : Heap) (locs : List Loc) (ls : Array Slot), f_h E σh7 H → va_S (f_A E) s.heap H locs → lv_has ls 5 [(1, .int x7_1), (2, .int x7_2)] → lp_X2_roughPart_7 N n7 x7_1 x7_2 σh7 = some (o7, σl7) → W p l e rm_X2_roughPart s m args below meth c H locs 0 0 Q (F0 m 7 ls []) := by
    intro n7
    induction n7 with
    | zero =>
      intro x7_1 x7_2 σh7 H locs ls hP hS hl hG
      rw [lp_X2_roughPart_7] at hG
      cases hG
    | succ n7 ih7 =>
      intro x7_1 x7_2 σh7 H locs ls hP hS hl hG
      rw [lp_X2_roughPart_7] at hG
      refine lv_iload_n hx hb dX2_roughPart_7 rfl (lv_at hl 1 rfl) ?_
      refine x_gnB2 F hS dX2_roughPart_8 ?_
      refine x_slB F hS dX2_roughPart_11 ?_
      refine lv_icmp_ge (tgt := 57) hx hb dX2_roughPart_12 (by decide) (fun c12 => ?_) (fun c12 => ?_)
      · have hG := f_ip c12 hG
        cases hG
        exact T7 _ _ _ hP hS (lv_sub hl [0] rfl)
      · have hG := f_in c12 hG
        refine x_gnB2 F hS dX2_roughPart_15 ?_
        refine lv_iload_n hx hb dX2_roughPart_18 rfl (lv_at hl 1 rfl) ?_
        obtain ⟨h19, hG⟩ := f_gd hG
        have i19 := f_fin h19
        refine x_sdB F hS i19 dX2_roughPart_19 ?_
        refine lv_topi (fun v20 e20 => ?_)
        have hG := f_lt hG e20
        refine lv_istore_n (lv' := [(3, .int v20), (1, .int x7_1), (2, .int x7_2)]) hx hb dX2_roughPart_20 rfl hl (by decide) rfl (fun ls hl => ?_)
        refine lv_iconst (v := 0) hx hb dX2_roughPart_21 (by decide) ?_
        refine lv_istore (lv' := [(4, .int (0 : Int32)), (3, .int v20), (1, .int x7_1), (2, .int x7_2)]) hx hb dX2_roughPart_22 hl (by decide) rfl (fun ls hl => ?_)
        obtain ⟨o24, σl24, hT24, hG⟩ := f_bd hG
        have T24 : ∀ (H : Heap) (locs : List Loc) (ls : Array Slot), f_h E σl24 H → va_S (f_A E) s.heap H locs → lv_has ls 5 [(1, .int o24), (2, .int x7_2)] → W p l e rm_X2_roughPart s m args below meth c H locs 0 0 Q (F0 m 51 ls []) := by
          intro H locs ls hP hS hl
          refine lv_iinc (v := (x7_2 + (1 : Int32))) (lv' := [(2, .int (x7_2 + (1 : Int32))), (1, .int o24)]) hx hb dX2_roughPart_51 hl (k := 1) rfl (by rfl) (by decide) rfl (fun ls hl => ?_)
          refine lv_goto (tgt := 7) hx hb dX2_roughPart_54 (by decide) ?_
          exact ih7 o24 (x7_2 + (1 : Int32)) σl24 _ _ _ hP hS (lv_sub hl [1, 0] rfl) hG
        have L24 : ∀ (n24 : Nat) (x24_1 : Int32) (x24_4 : Int32) (σh24 : fS) (H : Heap) (locs : List Loc) (ls : Array Slot), f_h E σh24 H → va_S (f_A E) s.heap H locs → lv_has ls 5 [(1, .int x24_1), (2, .int x7_2), (3, .int v20), (4, .int x24_4)] → lp_X2_roughPart_24 N x7_2 v20 n24 x24_1 x24_4 σh24 = some (o24, σl24) → W p l e rm_X2_roughPart s m args below meth c H locs 0 0 Q (F0 m 24 ls []) := by
          intro n24
          induction n24 with
          | zero =>
            intro x24_1 x24_4 σh24 H locs ls hP hS hl hG
            rw [lp_X2_roughPart_24] at hG
            cases hG
          | succ n24 ih24 =>
            intro x24_1 x24_4 σh24 H locs ls hP hS hl hG
            rw [lp_X2_roughPart_24] at hG
            refine lv_iload hx hb dX2_roughPart_24 (lv_at hl 3 rfl) ?_
            refine lv_bipush (v := 31) hx hb dX2_roughPart_26 (by decide) ?_
            refine lv_icmp_ge (tgt := 51) hx hb dX2_roughPart_28 (by decide) (fun c28 => ?_) (fun c28 => ?_)
            · have hG := f_ip c28 hG
              cases hG
              exact T24 _ _ _ hP hS (lv_sub hl [0, 1] rfl)
            · have hG := f_in c28 hG
              refine lv_iload_n hx hb dX2_roughPart_31 rfl (lv_at hl 0 rfl) ?_
              refine lv_if_eq (tgt := 51) hx hb dX2_roughPart_32 (by decide) (fun c32 => ?_) (fun c32 => ?_)
              · have hG := f_ip c32 hG
                cases hG
                exact T24 _ _ _ hP hS (lv_sub hl [0, 1] rfl)
              · have hG := f_in c32 hG
                refine lv_iload_n hx hb dX2_roughPart_35 rfl (lv_at hl 0 rfl) ?_
                refine lv_iload_n hx hb dX2_roughPart_36 rfl (lv_at hl 2 rfl) ?_
                obtain ⟨h37, hG⟩ := f_gd hG
                refine x_irem F dX2_roughPart_37 (f_nz h37) ?_
                refine lv_if_ne (tgt := 51) hx hb dX2_roughPart_38 (by decide) (fun c38 => ?_) (fun c38 => ?_)
                · have hG := f_in c38 hG
                  cases hG
                  exact T24 _ _ _ hP hS (lv_sub hl [0, 1] rfl)
                · have hG := f_ip c38 hG
                  refine lv_iload_n hx hb dX2_roughPart_41 rfl (lv_at hl 0 rfl) ?_
                  refine lv_iload_n hx hb dX2_roughPart_42 rfl (lv_at hl 2 rfl) ?_
                  obtain ⟨h43, hG⟩ := f_gd hG
                  refine lv_idiv hx hb dX2_roughPart_43 (f_nz h43) ?_
                  refine lv_topi (fun v44 e44 => ?_)
                  have hG := f_lt hG e44
                  refine lv_istore_n (lv' := [(1, .int v44), (2, .int x7_2), (3, .int v20), (4, .int x24_4)]) hx hb dX2_roughPart_44 rfl hl (by decide) rfl (fun ls hl => ?_)
                  refine lv_iinc (v := (x24_4 + (1 : Int32))) (lv' := [(4, .int (x24_4 + (1 : Int32))), (1, .int v44), (2, .int x7_2), (3, .int v20)]) hx hb dX2_roughPart_45 hl (k := 3) rfl (by rfl) (by decide) rfl (fun ls hl => ?_)
                  refine lv_goto (tgt := 24) hx hb dX2_roughPart_48 (by decide) ?_
                  exact ih24 v44 (x24_4 + (1 : Int32)) σh24 _ _ _ hP hS (lv_sub hl [1, 2, 3, 0] rfl) hG
        exact L24 N x7_1 (0 : Int32) σh7 _ _ _ hP hS (lv_sub hl [2, 3, 1, 0] rfl) hT24
  exact L7 N r1 (1 : Int32) σ1 _ _ _ hP hS (lv_sub hl [1, 0] rfl) hT7
