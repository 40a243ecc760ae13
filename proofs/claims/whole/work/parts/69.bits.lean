/-! bits counted; pair (the rows wb_* began as kit/laws/BITS.to-paste) -/
/-! ===== lN n to 2^64: shifts, and, or, masks, one bit ===== -/
theorem wb_tb (n : Nat) : (lN n).toBitVec = BitVec.ofNat 64 n := rfl
theorem wb_inj {a b : Int64} (h : a.toBitVec = b.toBitVec) : a = b := Int64.toBitVec_inj.mp h
theorem wb_tn {n : Nat} (h : n < 2 ^ 64) : (lN n).toBitVec.toNat = n := by rw [wb_tb, BitVec.toNat_ofNat, Nat.mod_eq_of_lt h]
theorem wb_of (x : Int64) : ∃ n, n < 2 ^ 64 ∧ x = lN n := ⟨x.toBitVec.toNat, x.toBitVec.isLt, wb_inj (by rw [wb_tb]; simp)⟩
theorem wb_of32 (x : Int32) : ∃ n, n < 2 ^ 32 ∧ x = nI n := ⟨x.toBitVec.toNat, x.toBitVec.isLt, Int32.toBitVec_inj.mp (by show _ = BitVec.ofNat 32 _; simp)⟩
theorem wb_c : ∀ k, k < 64 → ((nI k).toInt64 &&& 63) = lN k := by decide +kernel
theorem wb_cu : ∀ k, k < 64 → ((nI k).toInt64.toUInt64 &&& Int64.toUInt64 63) = UInt64.ofNat k := by decide +kernel
theorem wb_sm : ∀ k, k < 64 → (BitVec.ofNat 64 k).smod 64 = BitVec.ofNat 64 k := by decide +kernel
theorem wb_pw {a b : Nat} (h : a ≤ b) : 2 ^ b = 2 ^ a * 2 ^ (b - a) := by rw [← Nat.pow_add]; congr 1; omega
theorem wb_lt2 {a b : Nat} (h : a < b) : 2 ^ a < 2 ^ b := Nat.pow_lt_pow_right (by decide) h
theorem wb_mod (n : Nat) : lN n = lN (n % 2 ^ 64) := wb_inj (by rw [wb_tb, wb_tb]; apply BitVec.eq_of_toNat_eq; rw [BitVec.toNat_ofNat, BitVec.toNat_ofNat, Nat.mod_mod])
theorem wb_shr {n k : Nat} (hn : n < 2 ^ 64) (hk : k < 64) : ((lN n).toUInt64 >>> ((nI k).toInt64.toUInt64 &&& Int64.toUInt64 63)).toInt64 = lN (n / 2 ^ k) := by
  rw [wb_cu k hk]
  apply wb_inj
  apply BitVec.eq_of_toNat_eq
  show ((lN n).toUInt64 >>> UInt64.ofNat k).toNat = (BitVec.ofNat 64 _).toNat
  have h1 : (UInt64.ofNat k).toNat = k := by
    show (BitVec.ofNat 64 k).toNat = k
    rw [BitVec.toNat_ofNat, Nat.mod_eq_of_lt (by omega)]
  have h2 : (lN n).toUInt64.toNat = n := wb_tn hn
  rw [UInt64.toNat_shiftRight, h1, h2, Nat.mod_eq_of_lt hk, Nat.shiftRight_eq_div_pow, BitVec.toNat_ofNat, Nat.mod_eq_of_lt (Nat.lt_of_le_of_lt (Nat.div_le_self _ _) hn)]
theorem wb_shl (n : Nat) {k : Nat} (hk : k < 64) : lN n <<< ((nI k).toInt64 &&& 63) = lN (n * 2 ^ k) := by
  rw [wb_c k hk]
  apply wb_inj
  rw [Int64.toBitVec_shiftLeft, wb_tb, wb_tb, wb_tb, wb_sm k hk]
  apply BitVec.eq_of_toNat_eq
  rw [BitVec.shiftLeft_eq', BitVec.toNat_shiftLeft, BitVec.toNat_ofNat, BitVec.toNat_ofNat, BitVec.toNat_ofNat, Nat.mod_eq_of_lt (show k < 2 ^ 64 by omega), Nat.shiftLeft_eq, Nat.mul_mod, Nat.mod_mod, ← Nat.mul_mod]
theorem wb_and {a b : Nat} (ha : a < 2 ^ 64) (hb : b < 2 ^ 64) : lN a &&& lN b = lN (a &&& b) := by
  apply wb_inj
  rw [Int64.toBitVec_and, wb_tb, wb_tb, wb_tb]
  apply BitVec.eq_of_toNat_eq
  rw [BitVec.toNat_and, BitVec.toNat_ofNat, BitVec.toNat_ofNat, BitVec.toNat_ofNat, Nat.mod_eq_of_lt ha, Nat.mod_eq_of_lt hb, Nat.mod_eq_of_lt (Nat.and_lt_two_pow _ hb)]
theorem wb_or {a b : Nat} (ha : a < 2 ^ 64) (hb : b < 2 ^ 64) : lN a ||| lN b = lN (a ||| b) := by
  apply wb_inj
  rw [Int64.toBitVec_or, wb_tb, wb_tb, wb_tb]
  apply BitVec.eq_of_toNat_eq
  rw [BitVec.toNat_or, BitVec.toNat_ofNat, BitVec.toNat_ofNat, BitVec.toNat_ofNat, Nat.mod_eq_of_lt ha, Nat.mod_eq_of_lt hb, Nat.mod_eq_of_lt (Nat.or_lt_two_pow ha hb)]
theorem wb_mask {n k : Nat} (hn : n < 2 ^ 64) (hk : k < 64) : lN n &&& lN (2 ^ k - 1) = lN (n % 2 ^ k) := by
  rw [wb_and hn (by have := wb_lt2 hk; omega), Nat.and_two_pow_sub_one_eq_mod]
theorem wb_a1 {n : Nat} (hn : n < 2 ^ 64) : lN n &&& 1 = lN (n % 2) := wb_mask (k := 1) hn (by decide)
theorem pop_succ (n M : Nat) : pop (n + 1) M = pop n M + (if M.testBit n then 1 else 0) := by
  unfold pop
  rw [List.range_succ, List.filter_append, List.length_append]
  congr 1
  cases h : M.testBit n <;> simp [h]
theorem pop_0 (M : Nat) : pop 0 M = 0 := rfl
theorem pop_cg {a b : Nat} : ∀ n, (∀ r, r < n → a.testBit r = b.testBit r) → pop n a = pop n b
  | 0, _ => rfl
  | n + 1, h => by rw [pop_succ, pop_succ, pop_cg n (fun r hr => h r (by omega)), h n (by omega)]
theorem pop_add (a M : Nat) : ∀ b, pop (a + b) M = pop a M + pop b (M >>> a)
  | 0 => by rw [pop_0]; rfl
  | b + 1 => by rw [← Nat.add_assoc, pop_succ, pop_add a M b, pop_succ, Nat.testBit_shiftRight, Nat.add_assoc]
theorem pop_big {n M : Nat} (h : M < 2 ^ n) : ∀ b, pop (n + b) M = pop n M
  | 0 => rfl
  | b + 1 => by
    rw [← Nat.add_assoc, pop_succ, pop_big h b, Nat.testBit_lt_two_pow (Nat.lt_of_lt_of_le h (Nat.pow_le_pow_right (by decide) (by omega)))]
    rfl
/-! bytes -/
def vB : List Nat → Nat
  | [] => 0
  | b :: bs => b + 256 * vB bs
theorem and_sp {a b c d : Nat} (ha : a < 256) (hc : c < 256) : (a + 256 * b) &&& (c + 256 * d) = (a &&& c) + 256 * (b &&& d) := by
  have h1 : ((a + 256 * b) &&& (c + 256 * d)) % 2 ^ 8 = a &&& c := by
    rw [Nat.and_mod_two_pow, show (a + 256 * b) % 2 ^ 8 = a by omega, show (c + 256 * d) % 2 ^ 8 = c by omega]
  have h2 : ((a + 256 * b) &&& (c + 256 * d)) / 2 ^ 8 = b &&& d := by
    rw [Nat.and_div_two_pow, show (a + 256 * b) / 2 ^ 8 = b by omega, show (c + 256 * d) / 2 ^ 8 = d by omega]
  have h3 := Nat.div_add_mod ((a + 256 * b) &&& (c + 256 * d)) (2 ^ 8)
  rw [h1, h2] at h3
  rw [← h3, Nat.add_comm]
def by1 (b : Nat) : Nat := b - (b / 2 &&& 85)
def by2 (b : Nat) : Nat := (b &&& 51) + (b / 4 &&& 51)
def by3 (b : Nat) : Nat := b % 16 + b / 16
theorem by1_A : ∀ b, b < 256 → ∀ x, x < 2 → ((b / 2 + 128 * x) &&& 85) = (b / 2 &&& 85) ∧ (b / 2 &&& 85) + by1 b = b ∧ by1 b < 256 := by decide +kernel
theorem by2_A : ∀ b, b < 256 → ∀ x, x < 4 → ((b / 4 + 64 * x) &&& 51) = (b / 4 &&& 51) ∧ by2 b < 256 := by decide +kernel
theorem by2_B : ∀ b, b < 256 → by2 (by1 b) % 16 ≤ 4 ∧ by2 (by1 b) / 16 ≤ 4 ∧ by3 (by2 (by1 b)) = pop 8 b ∧ pop 8 b ≤ 8 := by decide +kernel
theorem by3_A : ∀ b, b < 256 → b % 16 ≤ 4 → b / 16 ≤ 4 → ∀ x, x < 5 → ((b + b / 16 + 16 * x) &&& 15) = by3 b ∧ b + b / 16 + 16 * x < 256 := by decide +kernel
theorem bs_1 : ∀ bs : List Nat, (∀ b ∈ bs, b < 256) → (vB bs / 2 &&& vB (bs.map fun _ => 85)) + vB (bs.map by1) = vB bs
  | [], _ => rfl
  | b :: bs, h => by
    have hb := h b (List.mem_cons_self ..)
    have ih := bs_1 bs (fun a ha => h a (List.mem_cons_of_mem _ ha))
    obtain ⟨h1, h2, h3⟩ := by1_A b hb (vB bs % 2) (Nat.mod_lt _ (by decide))
    show ((b + 256 * vB bs) / 2 &&& (85 + 256 * vB (bs.map fun _ => 85))) + (by1 b + 256 * vB (bs.map by1)) = b + 256 * vB bs
    rw [show (b + 256 * vB bs) / 2 = (b / 2 + 128 * (vB bs % 2)) + 256 * (vB bs / 2) by omega, and_sp (by omega) (by decide), h1]
    generalize (b / 2 &&& 85) = p at h2 ⊢
    generalize (vB bs / 2 &&& vB (bs.map fun _ => 85)) = q at ih ⊢
    omega
theorem bs_2 : ∀ bs : List Nat, (∀ b ∈ bs, b < 256) → (vB bs &&& vB (bs.map fun _ => 51)) + (vB bs / 4 &&& vB (bs.map fun _ => 51)) = vB (bs.map by2)
  | [], _ => rfl
  | b :: bs, h => by
    have hb := h b (List.mem_cons_self ..)
    have ih := bs_2 bs (fun a ha => h a (List.mem_cons_of_mem _ ha))
    obtain ⟨h1, _⟩ := by2_A b hb (vB bs % 4) (Nat.mod_lt _ (by decide))
    show ((b + 256 * vB bs) &&& (51 + 256 * vB (bs.map fun _ => 51))) + ((b + 256 * vB bs) / 4 &&& (51 + 256 * vB (bs.map fun _ => 51))) = ((b &&& 51) + (b / 4 &&& 51)) + 256 * vB (bs.map by2)
    rw [show (b + 256 * vB bs) / 4 = (b / 4 + 64 * (vB bs % 4)) + 256 * (vB bs / 4) by omega, and_sp hb (by decide), and_sp (by omega) (by decide), h1]
    generalize (b / 4 &&& 51) = p
    generalize (b &&& 51) = p'
    generalize (vB bs / 4 &&& vB (bs.map fun _ => 51)) = q at ih ⊢
    generalize (vB bs &&& vB (bs.map fun _ => 51)) = q' at ih ⊢
    omega
theorem vB_16 : ∀ bs : List Nat, (∀ b ∈ bs, b % 16 ≤ 4) → vB bs % 16 < 5
  | [], _ => by decide
  | b :: bs, h => by
    have hb := h b (List.mem_cons_self ..)
    show (b + 256 * vB bs) % 16 < 5
    omega
theorem bs_3 : ∀ bs : List Nat, (∀ b ∈ bs, b < 256 ∧ b % 16 ≤ 4 ∧ b / 16 ≤ 4) → ((vB bs + vB bs / 16) &&& vB (bs.map fun _ => 15)) = vB (bs.map by3)
  | [], _ => rfl
  | b :: bs, h => by
    have hb := h b (List.mem_cons_self ..)
    have ih := bs_3 bs (fun a ha => h a (List.mem_cons_of_mem _ ha))
    have h16 := vB_16 bs (fun a ha => (h a (List.mem_cons_of_mem _ ha)).2.1)
    obtain ⟨h1, h2⟩ := by3_A b hb.1 hb.2.1 hb.2.2 (vB bs % 16) h16
    show (((b + 256 * vB bs) + (b + 256 * vB bs) / 16) &&& (15 + 256 * vB (bs.map fun _ => 15))) = by3 b + 256 * vB (bs.map by3)
    rw [show (b + 256 * vB bs) + (b + 256 * vB bs) / 16 = (b + b / 16 + 16 * (vB bs % 16)) + 256 * (vB bs + vB bs / 16) by omega, and_sp h2 (by decide), h1, ih]
def bys : Nat → Nat → List Nat
  | 0, _ => []
  | k + 1, w => (w % 256) :: bys k (w / 256)
theorem bys_lt : ∀ k w, ∀ b ∈ bys k w, b < 256
  | 0, _, b, h => absurd h (by simp [bys])
  | k + 1, w, b, h => by
    rcases List.mem_cons.mp h with h | h
    · rw [h]; exact Nat.mod_lt _ (by decide)
    · exact bys_lt k (w / 256) b h
theorem bys_len : ∀ k w, (bys k w).length = k
  | 0, _ => rfl
  | k + 1, w => by show (bys k (w / 256)).length + 1 = k + 1; rw [bys_len k]
theorem bys_v : ∀ k w, w < 256 ^ k → vB (bys k w) = w
  | 0, w, h => by simp at h; rw [h]; rfl
  | k + 1, w, h => by
    show w % 256 + 256 * vB (bys k (w / 256)) = w
    rw [bys_v k (w / 256) (by rw [Nat.pow_succ] at h; omega)]
    omega
def sml : List Nat → Nat
  | [] => 0
  | b :: bs => b + sml bs
theorem bys_p : ∀ k w, sml ((bys k w).map (pop 8)) = pop (8 * k) w
  | 0, w => rfl
  | k + 1, w => by
    show pop 8 (w % 256) + sml ((bys k (w / 256)).map (pop 8)) = _
    rw [bys_p k, show 8 * (k + 1) = 8 + 8 * k by omega, pop_add, Nat.shiftRight_eq_div_pow]
    congr 1
    exact pop_cg 8 (fun r hr => by rw [show (256 : Nat) = 2 ^ 8 from rfl, Nat.testBit_mod_two_pow]; simp [hr])
theorem bc_fin {p0 p1 p2 p3 p4 p5 p6 p7 v : Nat} (h0 : p0 ≤ 8) (h1 : p1 ≤ 8) (h2 : p2 ≤ 8) (h3 : p3 ≤ 8) (h4 : p4 ≤ 8) (h5 : p5 ≤ 8) (h6 : p6 ≤ 8) (h7 : p7 ≤ 8) (hv : v = vB [p0, p1, p2, p3, p4, p5, p6, p7]) :
    v < 2 ^ 60 ∧ (v + v / 256 + (v + v / 256) / 65536 + (v + v / 256 + (v + v / 256) / 65536) / 4294967296) % 128 = sml [p0, p1, p2, p3, p4, p5, p6, p7] := by
  obtain ⟨x7, k7⟩ : ∃ x, x = p7 := ⟨_, rfl⟩
  obtain ⟨x6, k6⟩ : ∃ x, x = p6 + 256 * x7 := ⟨_, rfl⟩
  obtain ⟨x5, k5⟩ : ∃ x, x = p5 + 256 * x6 := ⟨_, rfl⟩
  obtain ⟨x4, k4⟩ : ∃ x, x = p4 + 256 * x5 := ⟨_, rfl⟩
  obtain ⟨x3, k3⟩ : ∃ x, x = p3 + 256 * x4 := ⟨_, rfl⟩
  obtain ⟨x2, k2⟩ : ∃ x, x = p2 + 256 * x3 := ⟨_, rfl⟩
  obtain ⟨x1, k1⟩ : ∃ x, x = p1 + 256 * x2 := ⟨_, rfl⟩
  have kv : v = p0 + 256 * x1 := by rw [hv, k1, k2, k3, k4, k5, k6, k7]; rfl
  clear hv
  obtain ⟨z0, q0⟩ : ∃ z, z = p0 + p1 + 256 * (p1 + p2) := ⟨_, rfl⟩
  obtain ⟨z1, q1⟩ : ∃ z, z = p2 + p3 + 256 * (p3 + p4) := ⟨_, rfl⟩
  obtain ⟨z2, q2⟩ : ∃ z, z = p4 + p5 + 256 * (p5 + p6) := ⟨_, rfl⟩
  have b0 : z0 ≤ 4112 := by clear k1 k2 k3 k4 k5 k6 k7 kv; omega
  have b1 : z1 ≤ 4112 := by clear k1 k2 k3 k4 k5 k6 k7 kv q0; omega
  have b2 : z2 ≤ 4112 := by clear k1 k2 k3 k4 k5 k6 k7 kv q0 q1; omega
  have c6 : x6 ≤ 2056 := by clear k1 k2 k3 k4 k5 kv; omega
  have c5 : x5 ≤ 526344 := by clear k1 k2 k3 k4 k6 kv q0 q1 q2; omega
  have c4 : x4 ≤ 134744072 := by clear k1 k2 k3 k5 k6 kv q0 q1 q2; omega
  have c3 : x3 ≤ 34494482440 := by clear k1 k2 k4 k5 k6 kv q0 q1 q2; omega
  have c2 : x2 ≤ 8830587504648 := by clear k1 k3 k4 k5 k6 kv q0 q1 q2; omega
  have c1 : x1 ≤ 2260630401189896 := by clear k2 k3 k4 k5 k6 kv q0 q1 q2; omega
  have e1 : v / 256 = x1 := by clear k1 k2 k3 k4 k5 k6 q0 q1 q2; omega
  have d0 : v + x1 = z0 + 65536 * (x2 + x3) := by clear k3 k4 k5 k6 k7 q1 q2 e1; omega
  have d1 : x2 + x3 = z1 + 65536 * (x4 + x5) := by clear k1 k5 k6 k7 q0 q2 e1 d0 kv; omega
  have d2 : x4 + x5 = z2 + 65536 * (x6 + x7) := by clear k1 k2 k3 k7 q0 q1 e1 d0 d1 kv; omega
  generalize hw1 : x2 + x3 = w1 at d0 d1
  generalize hw2 : x4 + x5 = w2 at d1 d2
  generalize hw3 : x6 + x7 = w3 at d2
  have e2 : (v + x1) / 65536 = w1 := by
    rw [d0]; clear k1 k2 k3 k4 k5 k6 k7 q0 q1 q2 e1 d0 d1 d2 hw1 hw2 hw3 kv; omega
  have e3 : v + x1 + w1 = (z0 + z1 + 65536 * (z1 + z2)) + 4294967296 * (w2 + w3) := by
    rw [d0]; clear k1 k2 k3 k4 k5 k6 k7 q0 q1 q2 e1 e2 d0 hw1 hw2 hw3 kv; omega
  have e4 : (v + x1 + w1) / 4294967296 = w2 + w3 := by
    rw [e3]; clear k1 k2 k3 k4 k5 k6 k7 q0 q1 q2 e1 e2 e3 d0 d1 d2 hw1 hw2 hw3 kv; omega
  have e5 : w3 = p6 + p7 + 256 * p7 := by clear k1 k2 k3 k4 k5 q0 q1 q2 e1 e2 e3 e4 d0 d1 d2 hw1 hw2 kv; omega
  have e6 : (z0 + z1 + 65536 * (z1 + z2)) + 4294967296 * (w2 + w3) + (w2 + w3) = (p0 + p1 + p2 + p3 + p4 + p5 + p6 + p7) + 128 * (2 * (p1 + p2 + p3 + p4 + p5 + p6 + p7) + 512 * (z1 + z2) + 33554432 * (w2 + w3) + 512 * w3) := by
    clear k1 k2 k3 k4 k5 k6 k7 e1 e2 e3 e4 d0 d1 hw1 hw2 hw3 kv; omega
  rw [e1, e2, e4, e3, e6, Nat.add_mul_mod_self_left]
  refine ⟨by clear k1 k2 k3 k4 k5 k6 q0 q1 q2 e1 e2 e3 e4 e5 e6 d0 d1 d2; omega, ?_⟩
  show (p0 + p1 + p2 + p3 + p4 + p5 + p6 + p7) % 128 = p0 + (p1 + (p2 + (p3 + (p4 + (p5 + (p6 + (p7 + 0)))))))
  clear k1 k2 k3 k4 k5 k6 k7 q0 q1 q2 e1 e2 e3 e4 e5 e6 d0 d1 d2 hw1 hw2 hw3 kv
  omega
theorem u_sh {k p : Nat} (hp : 2 ^ k = p) (hk : k < 64) {x : Nat} (hx : x < 2 ^ 64) : ((lN x).toUInt64 >>> ((nI k).toInt64.toUInt64 &&& Int64.toUInt64 63)).toInt64 = lN (x / p) := by rw [wb_shr hx hk, hp]
theorem v_bc {N w : Nat} {σ : fS} (hw : w < 2 ^ 64) : g_J13_bitCount_95d88 N (Int64.ofNat w) σ = some (nI (pop 64 w), σ) := by
  have hB := bys_lt 8 w
  have e0 : vB (bys 8 w) = w := bys_v 8 w (by simpa using hw)
  have m1 : vB ((bys 8 w).map fun _ => 85) = 6148914691236517205 := by rw [List.map_const', bys_len]; decide +kernel
  have m2 : vB (((bys 8 w).map by1).map fun _ => 51) = 3689348814741910323 := by rw [List.map_const', List.length_map, bys_len]; decide +kernel
  have m3 : vB ((((bys 8 w).map by1).map by2).map fun _ => 15) = 1085102592571150095 := by rw [List.map_const', List.length_map, List.length_map, bys_len]; decide +kernel
  have e1 := bs_1 (bys 8 w) hB
  rw [m1, e0] at e1
  have hB1 : ∀ b ∈ (bys 8 w).map by1, b < 256 := by
    intro b hb
    obtain ⟨a, ha, rfl⟩ := List.mem_map.mp hb
    exact (by1_A a (hB a ha) 0 (by decide)).2.2
  have e2 := bs_2 _ hB1
  rw [m2] at e2
  have hB2 : ∀ b ∈ ((bys 8 w).map by1).map by2, b < 256 ∧ b % 16 ≤ 4 ∧ b / 16 ≤ 4 := by
    intro b hb
    obtain ⟨a, ha, rfl⟩ := List.mem_map.mp hb
    obtain ⟨a', ha', rfl⟩ := List.mem_map.mp ha
    have := by2_B a' (hB a' ha')
    exact ⟨(by2_A _ (hB1 _ ha) 0 (by decide)).2, this.1, this.2.1⟩
  have e3 := bs_3 _ hB2
  rw [m3] at e3
  have e4 : (((bys 8 w).map by1).map by2).map by3 = (bys 8 w).map (pop 8) := by
    rw [List.map_map, List.map_map]
    exact List.map_congr_left (fun a ha => (by2_B a (hB a ha)).2.2.1)
  rw [e4] at e3
  have hp : ∀ b ∈ (bys 8 w).map (pop 8), b ≤ 8 := by
    intro b hb
    obtain ⟨a, ha, rfl⟩ := List.mem_map.mp hb
    exact (by2_B a (hB a ha)).2.2.2
  have hs : sml ((bys 8 w).map (pop 8)) = pop 64 w := bys_p 8 w
  obtain ⟨p0, p1, p2, p3, p4, p5, p6, p7, hl⟩ : ∃ p0 p1 p2 p3 p4 p5 p6 p7, (bys 8 w).map (pop 8) = [p0, p1, p2, p3, p4, p5, p6, p7] := ⟨_, _, _, _, _, _, _, _, rfl⟩
  rw [hl] at hs e3 hp
  simp only [List.mem_cons, List.not_mem_nil, or_false, forall_eq_or_imp, forall_eq] at hp
  obtain ⟨h0, h1, h2, h3, h4, h5, h6, h7⟩ := hp
  obtain ⟨f1, f2⟩ := bc_fin h0 h1 h2 h3 h4 h5 h6 h7 (v := vB [p0, p1, p2, p3, p4, p5, p6, p7]) rfl
  generalize vB [p0, p1, p2, p3, p4, p5, p6, p7] = v at e3 f1 f2
  rw [hs] at f2
  generalize vB (((bys 8 w).map by1).map by2) = y at e2 e3
  generalize vB ((bys 8 w).map by1) = x at e1 e2
  have hx : x < 2 ^ 64 := by omega
  have hq : (w / 2 &&& 6148914691236517205) < 2 ^ 64 := by omega
  have hxa : (x &&& 3689348814741910323) < 2 ^ 64 := Nat.lt_of_le_of_lt Nat.and_le_left hx
  have hxb : (x / 4 &&& 3689348814741910323) < 2 ^ 64 := Nat.lt_of_le_of_lt Nat.and_le_left (by omega)
  have hxa2 : (x &&& 3689348814741910323) ≤ 3689348814741910323 := Nat.and_le_right
  have hxb2 : (x / 4 &&& 3689348814741910323) ≤ 3689348814741910323 := Nat.and_le_right
  have hy : y < 2 ^ 63 := by omega
  have ew : w - (w / 2 &&& 6148914691236517205) = x := by omega
  unfold g_J13_bitCount_95d88
  rw [show Int64.ofNat w = lN w from rfl, show (6148914691236517205 : Int64) = lN 6148914691236517205 from rfl, show (3689348814741910323 : Int64) = lN 3689348814741910323 from rfl, show (1085102592571150095 : Int64) = lN 1085102592571150095 from rfl]
  rw [show ((lN w).toUInt64 >>> (((1 : Int32)).toInt64.toUInt64 &&& Int64.toUInt64 63)).toInt64 = lN (w / 2) from u_sh (k := 1) rfl (by decide) hw, wb_and (by omega) (by decide), lN_sub (by omega), ew, Lt_e]
  rw [show ((lN x).toUInt64 >>> (((2 : Int32)).toInt64.toUInt64 &&& Int64.toUInt64 63)).toInt64 = lN (x / 4) from u_sh (k := 2) rfl (by decide) hx, wb_and hx (by decide), wb_and (by omega) (by decide), lN_add, e2, Lt_e]
  rw [show ((lN y).toUInt64 >>> (((4 : Int32)).toInt64.toUInt64 &&& Int64.toUInt64 63)).toInt64 = lN (y / 16) from u_sh (k := 4) rfl (by decide) (by omega), lN_add, wb_and (by omega) (by decide), e3, Lt_e]
  rw [show ((lN v).toUInt64 >>> (((8 : Int32)).toInt64.toUInt64 &&& Int64.toUInt64 63)).toInt64 = lN (v / 256) from u_sh (k := 8) rfl (by decide) (by omega), lN_add, Lt_e]
  generalize hc : v + v / 256 = c at f2 ⊢
  have hc2 : c < 2 ^ 61 := by omega
  rw [show ((lN c).toUInt64 >>> (((16 : Int32)).toInt64.toUInt64 &&& Int64.toUInt64 63)).toInt64 = lN (c / 65536) from u_sh (k := 16) rfl (by decide) (by omega), lN_add, Lt_e]
  generalize hd : c + c / 65536 = d at f2 ⊢
  have hd2 : d < 2 ^ 62 := by omega
  rw [show ((lN d).toUInt64 >>> (((32 : Int32)).toInt64.toUInt64 &&& Int64.toUInt64 63)).toInt64 = lN (d / 4294967296) from u_sh (k := 32) rfl (by decide) (by omega), lN_add, Lt_e, lN_i, show (127 : Int32) = nI (2 ^ 7 - 1) from rfl, andI, Nat.and_two_pow_sub_one_eq_mod, show (2 : Nat) ^ 7 = 128 from rfl, f2]
theorem cm_step {N k c w n : Nat} {A M : Nat → Nat} {m : Nat} {σ : fS} (h : PS σ n m A M) (hk : k < m) (hw : w < 3) (f : Nat) : lp_X4_countMet_4 N (nI k) (f + 1) (nI c) (nI w) σ = lp_X4_countMet_4 N (nI k) f (nI (c + pop 64 (M k >>> (64 * w)))) (nI (w + 1)) σ := by
  obtain ⟨_, ⟨h4, h5, h6⟩, _, h8⟩ := h
  obtain ⟨_, _, _, hv, _, _⟩ := h8 k hk
  have hh : g_X4_has N (nI k) σ = some (1, σ) := by
    unfold g_X4_has
    rw [if_neg (n_lt0 (by omega)), h4, if_neg (n_le (by omega) hk), if_neg (show ¬ (56 : Int32) ≤ nI k from n_le (b := 56) (by omega) (by omega))]
  have e1 : nI k * (3 : Int32) + nI w = nI (3 * k + w) := by
    rw [show nI k * (3 : Int32) = nI (k * 3) from pk_mul k 3, nI_add, Nat.mul_comm]
  rw [lp_X4_countMet_4, if_neg (show ¬ (3 : Int32) ≤ nI w from n_le (b := 3) (by omega) hw), hh, Bd_s, if_neg (by decide), e1, Gd_c (fin_nI (by omega) (by omega)), n_cl (by omega), hv w hw, v_bc (Nat.mod_lt _ (by decide)), Bd_s, Lt_e, nI_add, nI_1]
  rw [show pop 64 (M k >>> (64 * w) % 2 ^ 64) = pop 64 (M k >>> (64 * w)) from pop_cg 64 (fun r hr => by rw [Nat.testBit_mod_two_pow]; simp [hr])]
theorem pop3 {n M : Nat} (h : M < 2 ^ n) (hn : n ≤ 160) : 0 + pop 64 (M >>> (64 * 0)) + pop 64 (M >>> (64 * 1)) + pop 64 (M >>> (64 * 2)) = pop n M := by
  have e := pop_big h (192 - n)
  rw [show n + (192 - n) = 64 + (64 + 64) by omega, pop_add, pop_add, ← Nat.shiftRight_add] at e
  rw [← e]
  show 0 + pop 64 (M >>> 0) + pop 64 (M >>> 64) + pop 64 (M >>> 128) = pop 64 M + (pop 64 (M >>> 64) + pop 64 (M >>> 128))
  rw [Nat.shiftRight_zero]
  omega
theorem v_cmX {N k n m : Nat} {A M : Nat → Nat} {σ : fS} (hN : 200 ≤ N) (h : PS σ n m A M) (hk : k < m) : g_X4_countMet N (nI k) σ = some (nI (pop n (M k)), σ) := by
  have key : ∀ F, 4 ≤ F → lp_X4_countMet_4 N (nI k) F (nI 0) (nI 0) σ = some (nI (pop n (M k)), σ) := by
    intro F hF
    obtain ⟨f, rfl⟩ : ∃ f, F = f + 1 + 1 + 1 + 1 := ⟨F - 4, by omega⟩
    rw [cm_step h hk (by decide), cm_step h hk (by decide), cm_step h hk (by decide), lp_X4_countMet_4, if_pos (show (3 : Int32) ≤ nI (0 + 1 + 1 + 1) by decide)]
    rw [pop3 (h.2.2.2 k hk).2.2.1 h.1.2.2]
  unfold g_X4_countMet
  rw [show (0 : Int32) = nI 0 from rfl, key N (by omega), Bd_s]
def prI (σ : fS) (n : Nat) (M : Nat → Nat) (k w : Nat) : Int32 := if w = 0 then σ.1 71 k else if w = 1 then σ.1 72 k else if w = 2 then σ.1 73 k else if w = 3 then σ.1 74 k else nI (pop n (M k))
theorem v_prX {N k n m w : Nat} {A M : Nat → Nat} {σ : fS} (hN : 200 ≤ N) (h : PS σ n m A M) (hk : k < m) (hw : w < 5) : g_X7_pair N (nI k) (nI w) σ = some (prI σ n M k w, σ) := by
  have hm := h.2.1.2.2
  have hh : g_X4_has N (nI k) σ = some (1, σ) := by
    unfold g_X4_has
    rw [if_neg (n_lt0 (by omega)), h.2.1.1, if_neg (n_le (by omega) hk), if_neg (show ¬ (56 : Int32) ≤ nI k from n_le (b := 56) (by omega) (by omega))]
  obtain ⟨⟨a1, a2, _⟩, ⟨b1, b2, b3⟩, _⟩ := h.2.2.2 k hk
  unfold g_X7_pair
  rw [hh, Bd_s, if_neg (by decide), if_neg (n_lt0 (by omega)), if_pos (show nI w ≤ (4 : Int32) from y_le (a := 4) (by omega) (by omega)), Gd_c (fin_nI (by omega) (by omega)), Gd_c (fin_nI (by omega) (by omega)), Gd_c (fin_nI (by omega) (by omega)), Gd_c (fin_nI (by omega) (by omega)), n_cl (by omega), v_cmX hN h hk, a1, ← a2, ← b1, ← b2, ← b3]
  have hc : w = 0 ∨ w = 1 ∨ w = 2 ∨ w = 3 ∨ w = 4 := by omega
  rcases hc with rfl | rfl | rfl | rfl | rfl <;> rfl
theorem v_prM {N k n m w : Nat} {A M : Nat → Nat} {σ : fS} (h : PS σ n m A M) (hk : k < m) (hw : w < 5) : g_X8_pairNow N (nI k) (nI w) σ = some (prI σ n M k w, σ) := by
  have hm := h.2.1.2.2
  obtain ⟨_, _, _, _, h75, _⟩ := h.2.2.2 k hk
  unfold g_X8_pairNow
  rw [Gd_c (fin_nI (by omega) (by omega)), Gd_c (fin_nI (by omega) (by omega)), Gd_c (fin_nI (by omega) (by omega)), Gd_c (fin_nI (by omega) (by omega)), Gd_c (fin_nI (by omega) (by omega)), n_cl (by omega), h75]
  have hc : w = 0 ∨ w = 1 ∨ w = 2 ∨ w = 3 ∨ w = 4 := by omega
  rcases hc with rfl | rfl | rfl | rfl | rfl <;> rfl
theorem o22 {N : Nat} (hN : 200 ≤ N) : op_22 INV N := by
  intro x y σ hi
  have hi' := hi
  obtain ⟨pg, S, K, n, m, A, M, hw⟩ := hi'
  have hS := hw.2.2.2.2.2.2.2
  have h2 := hS.2.1
  rcases pr_or m h2.2.2 x with ⟨k, hk, rfl, e1, e2⟩ | ⟨e1, e2⟩
  · rcases in_or y 5 (by omega) with ⟨w, hw5, rfl⟩ | ⟨c1, c2⟩
    · refine ⟨prI σ n M k w, σ, σ, v_prX hN hS hk hw5, ?_, hi⟩
      unfold g_X8_pair
      rw [e2 N σ h2.2.1, Bd_s, if_neg (by decide), v_within, if_pos ⟨n_ge0 (by omega), show nI w ≤ (4 : Int32) from y_le (a := 4) (by omega) (by omega)⟩, Bd_s, if_neg (by decide), v_prM hS hk hw5, Bd_s]
    · refine ⟨-102, σ, σ, ?_, ?_, hi⟩
      · unfold g_X7_pair
        rw [e1 N σ h2.1, Bd_s, if_neg (by decide)]
        rcases c1 with c | ⟨c, c'⟩
        · rw [if_pos c]
        · rw [if_neg c, if_neg (show ¬ y ≤ (4 : Int32) from fun z => c2 ⟨Int32.not_lt.mp c, z⟩)]
      · unfold g_X8_pair
        rw [e2 N σ h2.2.1, Bd_s, if_neg (by decide), v_within, if_neg (show ¬ ((0 : Int32) ≤ y ∧ y ≤ 4) from c2), Bd_s, if_pos rfl]
  · refine ⟨-101, σ, σ, ?_, ?_, hi⟩
    · unfold g_X7_pair; rw [e1 N σ h2.1, Bd_s, if_pos rfl]
    · unfold g_X8_pair; rw [e2 N σ h2.2.1, Bd_s, if_pos rfl]
