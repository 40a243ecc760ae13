/-! at an odd PRIME: the rests that come depend on how many TERMS lack the PRIME and how many have it (up to three), and on what is a square by it -/
def sqm (j : Nat) : Nat := match j with
  | 2 => 2
  | 3 => 18
  | 4 => 22
  | 5 => 570
  | 6 => 5658
  | _ => 0
def chi (j : Nat) (z : Int) : Bool := (sqm j).testBit (z % (pAt j : Int)).toNat
def adp (q : Nat × Bool) (t : Bool) : Nat × Bool := match q.1 with
  | 0 => (1, t)
  | 1 => (2, q.2 == t)
  | _ => (3, true)
def sts : List (Nat × Bool) := [(0, true), (1, true), (1, false), (2, true), (2, false), (3, true)]
def cpz (j k : Nat) : Int := if k.testBit j then coreZ k / (pAt j : Int) else coreZ k
def dlt (j k : Nat) (a : (Nat × Bool) × (Nat × Bool)) : (Nat × Bool) × (Nat × Bool) := if k.testBit j then (a.1, adp a.2 (chi j (cpz j k))) else (adp a.1 (chi j (cpz j k)), a.2)
def un (j : Nat) : Nat := if j = 3 ∨ j = 6 then 2 else 1
def six (q : Nat × Bool) : Nat := match q.1 with
  | 0 => 0
  | 1 => if q.2 then 1 else 2
  | 2 => if q.2 then 3 else 4
  | _ => 5
def mkT (j : Nat) : List Nat := match j with
  | 2 => [0, 8, 64, 72, 73, 73, 146, 154, 210, 218, 219, 219, 292, 300, 356, 364, 365, 365, 438, 446, 502, 510, 511, 511, 511, 511, 511, 511, 511, 511, 511, 511, 511, 511, 511, 511]
  | 3 => [0, 1048608, 33792, 1082401, 1082400, 1082401, 19483218, 20531826, 19517010, 20565619, 20565618, 20565619, 12988812, 14037420, 13022604, 14071213, 14071212, 14071213, 33554431, 33554431, 33554431, 33554431, 33554431, 33554431, 32472030, 33520638, 32505822, 33554431, 33554430, 33554431, 33554431, 33554431, 33554431, 33554431, 33554431, 33554431]
  | 4 => [0, 268451968, 4432408346624, 4432676798592, 4432676798593, 4432676798593, 97518889569046, 97519158021014, 101951297915670, 101951566367638, 101951566367639, 101951566367639, 460998387053672, 460998655505640, 465430795400296, 465431063852264, 465431063852265, 465431063852265, 558517276622718, 558517545074686, 562949684969342, 562949953421310, 562949953421311, 562949953421311, 562949953421311, 562949953421311, 562949953421311, 562949953421311, 562949953421311, 562949953421311, 562949953421311, 562949953421311, 562949953421311, 562949953421311, 562949953421311, 562949953421311]
  | 5 => [0, 633825300114150747146146547712, 1298074524269906242905816296325120, 1298708349570020393652962442872832, 1298708349570020393652962442872833, 1298708349570020393652962442872833, 740263759254911624382188592437514810, 740264393080211738532935738584062522, 741561833779181530625094408733839930, 741562467604481644775841554880387642, 741562467604481644775841554880387643, 741562467604481644775841554880387643, 1916893523965350101031772565680301508, 1916894157790650215182519711826849220, 1918191598489620007274678381976626628, 1918192232314920121425425528123174340, 1918192232314920121425425528123174341, 1918192232314920121425425528123174341, 2657157283220261725413961158117816318, 2657157917045561839564708304264364030, 2658455357744531631656866974414141438, 2658455991569831745807614120560689150, 2658455991569831745807614120560689151, 2658455991569831745807614120560689151, 2658455991569831745807614120560689151, 2658455991569831745807614120560689151, 2658455991569831745807614120560689151, 2658455991569831745807614120560689151, 2658455991569831745807614120560689151, 2658455991569831745807614120560689151, 2658455991569831745807614120560689151, 2658455991569831745807614120560689151, 2658455991569831745807614120560689151, 2658455991569831745807614120560689151, 2658455991569831745807614120560689151, 2658455991569831745807614120560689151]
  | 6 => [0, 91343853694477053570957270382383598487486865408, 11150372599285596456553857725900482582413312, 91355004067076339167413824240109498970069278721, 91355004067076339167413824240109498970069278720, 91355004067076339167413824240109498970069278721, 516886613011517927009227417550539545172651979003418, 516977956865212404062798374820921928771139465868826, 516886624161890526294823874104397271073134561416730, 516977968015585003348394831374779654671622048282139, 516977968015585003348394831374779654671622048282138, 516977968015585003348394831374779654671622048282139, 231310870297837290771891802975957251392215413721572, 231402214151531767825462760246339634990702900586980, 231310881448209890057488259529814977292697996134884, 231402225301904367111059216800197360891185483000293, 231402225301904367111059216800197360891185483000292, 231402225301904367111059216800197360891185483000293, 748288838313422294120286634350736906063837462003711, 748288838313422294120286634350736906063837462003711, 748288838313422294120286634350736906063837462003711, 748288838313422294120286634350736906063837462003711, 748288838313422294120286634350736906063837462003711, 748288838313422294120286634350736906063837462003711, 748197483309355217781119220526496796564867392724990, 748288827163049694834690177796879180163354879590398, 748197494459727817066715677080354522465349975138302, 748288838313422294120286634350736906063837462003711, 748288838313422294120286634350736906063837462003710, 748288838313422294120286634350736906063837462003711, 748288838313422294120286634350736906063837462003711, 748288838313422294120286634350736906063837462003711, 748288838313422294120286634350736906063837462003711, 748288838313422294120286634350736906063837462003711, 748288838313422294120286634350736906063837462003711, 748288838313422294120286634350736906063837462003711]
  | _ => []
def mkM (j : Nat) (a : (Nat × Bool) × (Nat × Bool)) : Nat := (mkT j).getD (6 * six a.1 + six a.2) 0
def repk (j k : Nat) : Nat := (if k.testBit j then 2 ^ j else 0) + (if chi j (cpz j k) then 0 else un j)
theorem repk_tm : ∀ j, j < 7 → 2 ≤ j → ∀ k, k < 128 → tmF j k true = tmF j (repk j k) true ∧ tmF j k false = tmF j (repk j k) false := by decide +kernel
theorem repk_dl : ∀ j, j < 7 → 2 ≤ j → ∀ k, k < 128 → (repk j k).testBit j = k.testBit j ∧ chi j (cpz j (repk j k)) = chi j (cpz j k) := by decide +kernel
theorem repk_in : ∀ j, j < 7 → 2 ≤ j → ∀ k, k < 128 → repk j k ∈ [0, un j, 2 ^ j, 2 ^ j + un j] := by decide +kernel
def clB (j k : Nat) : Bool := sts.all fun a => sts.all fun b => (stM j k (1, mkM j (a, b))) == (1, mkM j (dlt j k (a, b)))
theorem cl_2_0 : clB 2 0 = true := by decide +kernel
theorem cl_2_1 : clB 2 1 = true := by decide +kernel
theorem cl_2_4 : clB 2 4 = true := by decide +kernel
theorem cl_2_5 : clB 2 5 = true := by decide +kernel
theorem cl_3_0 : clB 3 0 = true := by decide +kernel
theorem cl_3_2 : clB 3 2 = true := by decide +kernel
theorem cl_3_8 : clB 3 8 = true := by decide +kernel
theorem cl_3_10 : clB 3 10 = true := by decide +kernel
theorem cl_4_0 : clB 4 0 = true := by decide +kernel
theorem cl_4_1 : clB 4 1 = true := by decide +kernel
theorem cl_4_16 : clB 4 16 = true := by decide +kernel
theorem cl_4_17 : clB 4 17 = true := by decide +kernel
theorem cl_5_0 : clB 5 0 = true := by decide +kernel
theorem cl_5_1 : clB 5 1 = true := by decide +kernel
theorem cl_5_32 : clB 5 32 = true := by decide +kernel
theorem cl_5_33 : clB 5 33 = true := by decide +kernel
theorem cl_6_0 : clB 6 0 = true := by decide +kernel
theorem cl_6_2 : clB 6 2 = true := by decide +kernel
theorem cl_6_64 : clB 6 64 = true := by decide +kernel
theorem cl_6_66 : clB 6 66 = true := by decide +kernel
theorem clos : ∀ j, j < 7 → 2 ≤ j → ∀ k ∈ [0, un j, 2 ^ j, 2 ^ j + un j], clB j k = true
  | 0, _, h, _, _ => absurd h (by decide)
  | 1, _, h, _, _ => absurd h (by decide)
  | 2, _, _, k, hk => by
    rcases (show k = 0 ∨ k = 1 ∨ k = 4 ∨ k = 5 by simpa [un] using hk) with rfl | rfl | rfl | rfl
    · exact cl_2_0
    · exact cl_2_1
    · exact cl_2_4
    · exact cl_2_5
  | 3, _, _, k, hk => by
    rcases (show k = 0 ∨ k = 2 ∨ k = 8 ∨ k = 10 by simpa [un] using hk) with rfl | rfl | rfl | rfl
    · exact cl_3_0
    · exact cl_3_2
    · exact cl_3_8
    · exact cl_3_10
  | 4, _, _, k, hk => by
    rcases (show k = 0 ∨ k = 1 ∨ k = 16 ∨ k = 17 by simpa [un] using hk) with rfl | rfl | rfl | rfl
    · exact cl_4_0
    · exact cl_4_1
    · exact cl_4_16
    · exact cl_4_17
  | 5, _, _, k, hk => by
    rcases (show k = 0 ∨ k = 1 ∨ k = 32 ∨ k = 33 by simpa [un] using hk) with rfl | rfl | rfl | rfl
    · exact cl_5_0
    · exact cl_5_1
    · exact cl_5_32
    · exact cl_5_33
  | 6, _, _, k, hk => by
    rcases (show k = 0 ∨ k = 2 ∨ k = 64 ∨ k = 66 by simpa [un] using hk) with rfl | rfl | rfl | rfl
    · exact cl_6_0
    · exact cl_6_2
    · exact cl_6_64
    · exact cl_6_66
  | j + 7, h, _, _, _ => absurd h (by omega)
theorem clos_at {j k : Nat} (h : clB j k = true) {a b : Nat × Bool} (ha : a ∈ sts) (hb : b ∈ sts) : stM j k (1, mkM j (a, b)) = (1, mkM j (dlt j k (a, b))) := by
  have h1 := List.all_eq_true.mp (List.all_eq_true.mp h a ha) b hb
  simpa using h1
theorem adp_in : ∀ q ∈ sts, ∀ t, adp q t ∈ sts := by decide +kernel
def ab (j : Nat) (ks : List Nat) : (Nat × Bool) × (Nat × Bool) := ks.foldl (fun a k => dlt j k a) ((0, true), (0, true))
theorem stM_cg {j k k' : Nat} (h : tmF j k true = tmF j k' true ∧ tmF j k false = tmF j k' false) (s : Nat × Nat) : stM j k s = stM j k' s := by
  unfold stM
  rw [h.1, h.2]
theorem mk0 : ∀ j, j < 7 → 2 ≤ j → mkM j ((0, true), (0, true)) = 0 := by decide +kernel
theorem auto {j : Nat} (hj : j < 7) (h2 : 2 ≤ j) {ks : List Nat} (hk : ∀ k ∈ ks, k < 128) : foM j ks = (1, mkM j (ab j ks)) ∧ (ab j ks).1 ∈ sts ∧ (ab j ks).2 ∈ sts := by
  have key : ∀ (ks : List Nat) (a : (Nat × Bool) × (Nat × Bool)), (∀ k ∈ ks, k < 128) → a.1 ∈ sts → a.2 ∈ sts → ks.foldl (fun s k => stM j k s) (1, mkM j a) = (1, mkM j (ks.foldl (fun a k => dlt j k a) a)) ∧ (ks.foldl (fun a k => dlt j k a) a).1 ∈ sts ∧ (ks.foldl (fun a k => dlt j k a) a).2 ∈ sts := by
    intro ks
    induction ks with
    | nil => intro a _ h1 h2; exact ⟨rfl, h1, h2⟩
    | cons k ks ih =>
      intro a hks h1 h3
      have hkk := hks k List.mem_cons_self
      simp only [List.foldl_cons]
      have e1 : stM j k (1, mkM j a) = (1, mkM j (dlt j k a)) := by
        rw [stM_cg (repk_tm j hj h2 k hkk)]
        have e2 := clos_at (clos j hj h2 _ (repk_in j hj h2 k hkk)) h1 h3
        rw [show ((a.1, a.2) : (Nat × Bool) × (Nat × Bool)) = a from rfl] at e2
        rw [e2]
        congr 2
        unfold dlt
        rw [(repk_dl j hj h2 k hkk).1, (repk_dl j hj h2 k hkk).2]
      rw [e1]
      refine ih (dlt j k a) (fun x hx => hks x (List.mem_cons_of_mem _ hx)) ?_ ?_
      · unfold dlt; split
        · exact h1
        · exact adp_in _ h1 _
      · unfold dlt; split
        · exact adp_in _ h3 _
        · exact h3
  have h := key ks ((0, true), (0, true)) hk (by decide) (by decide)
  rw [mk0 j hj h2] at h
  exact h
def dp (j : Nat) (q : Nat × Bool) : Bool := q.1 == 3 || (q.1 == 2 && (q.2 == chi j (-1)))
theorem dec_A : ∀ j, j < 7 → 2 ≤ j → ∀ a ∈ sts, ∀ b ∈ sts, (mkM j (a, b)).testBit 0 = (dp j a || dp j b) := by decide +kernel
theorem vz_odd {j : Nat} (hj : j < 7) (h2 : 2 ≤ j) {ks : List Nat} (hk : ∀ k ∈ ks, k < 128) : vz j ks = (dp j (ab j ks).1 || dp j (ab j ks).2) := by
  obtain ⟨e, h1, h3⟩ := auto hj h2 hk
  unfold vz
  rw [if_neg (by omega), e]
  exact dec_A j hj h2 _ h1 _ h3
