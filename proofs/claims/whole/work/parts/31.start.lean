def prT : List Nat := [0, 1, 2, 3, 20, 21, 22, 23, 24, 49, 50, 51, 52, 53, 54, 55, 56, 57, 58, 59, 60, 4, 5, 6, 7, 8, 9, 10, 11, 12, 13, 14, 15, 16, 17, 18, 19, 25, 26, 27, 28, 29, 30, 31, 32, 33, 34, 35, 36, 37, 38, 39, 40, 41, 42, 43, 44, 45, 46, 47, 48, 61, 62, 63, 64, 65, 66, 67, 68, 69, 70, 71, 72, 73, 74, 75, 76, 77, 78, 79, 80, 81, 82, 83, 84]
theorem prT_inj : ∀ i, i < 85 → ∀ j, j < 85 → prT.getD i 0 = prT.getD j 0 → i = j := by decide +kernel
theorem arrV_cg {cA : ClassId} {n : Nat} {f g : Nat → Value} (h : ∀ j, j < n → f j = g j) : arrV cA n f = arrV cA n g := by
  unfold arrV
  congr 1
  congr 1
  funext j
  exact h j.1 j.2
def adO (q0 : Nat) (u : Nat → Nat) (q1 : Nat) (v : Nat → Nat) (k : Nat) : Nat := ([q0, (u 0), (u 1), (u 2), (u 19), (u 20), (u 21), (u 22), (u 23), (u 48), (u 49), (u 50), (u 51), (u 52), (u 53), (u 54), (u 55), (u 56), (u 57), (u 58), (u 59), (u 3), (u 4), (u 5), (u 6), (u 7), (u 8), (u 9), (u 10), (u 11), (u 12), (u 13), (u 14), (u 15), (u 16), (u 17), (u 18), (u 24), (u 25), (u 26), (u 27), (u 28), (u 29), (u 30), (u 31), (u 32), (u 33), (u 34), (u 35), (u 36), (u 37), (u 38), (u 39), (u 40), (u 41), (u 42), (u 43), (u 44), (u 45), (u 46), (u 47), q1, (v 0), (v 1), (v 2), (v 3), (v 4), (v 5), (v 6), (v 7), (v 8), (v 9), (v 10), (v 11), (v 12), (v 13), (v 14), (v 15), (v 16), (v 17), (v 18), (v 19), (v 20), (v 21), (v 22)] : List Nat).getD k 0
abbrev wO (cA : Nat → ClassId) (q0 : Nat) (u : Nat → Nat) (q1 : Nat) (v : Nat → Nat) : va_W := [(q0, .inr (6, [.ref (u 0), .ref (u 2), .ref (u 19), .ref (u 21), .ref (u 48), .ref (u 55), .ref (u 57)])), ((u 0), .inr (2, [.ref (u 1), .int 0])), ((u 1), .inl (cA 0, 18, .inl (fun _ => 0))), ((u 2), .inl (cA 4, 8, .inr (.inr (.inr (.inr (va_up (va_up (va_up (va_up (va_up (va_up (va_up (va_up (fun _ => none) 0 (some (u 3))) 1 (some (u 5))) 2 (some (u 7))) 3 (some (u 9))) 4 (some (u 11))) 5 (some (u 13))) 6 (some (u 15))) 7 (some (u 17)))))))), ((u 3), .inr (0, [.ref (u 4), .int 0, .int 0, .int 0])), ((u 4), .inl (cA 0, 4, .inl (fun _ => 0))), ((u 5), .inr (0, [.ref (u 6), .int 0, .int 0, .int 0])), ((u 6), .inl (cA 0, 4, .inl (fun _ => 0))), ((u 7), .inr (0, [.ref (u 8), .int 0, .int 0, .int 0])), ((u 8), .inl (cA 0, 4, .inl (fun _ => 0))), ((u 9), .inr (0, [.ref (u 10), .int 0, .int 0, .int 0])), ((u 10), .inl (cA 0, 4, .inl (fun _ => 0))), ((u 11), .inr (0, [.ref (u 12), .int 0, .int 0, .int 0])), ((u 12), .inl (cA 0, 4, .inl (fun _ => 0))), ((u 13), .inr (0, [.ref (u 14), .int 0, .int 0, .int 0])), ((u 14), .inl (cA 0, 4, .inl (fun _ => 0))), ((u 15), .inr (0, [.ref (u 16), .int 0, .int 0, .int 0])), ((u 16), .inl (cA 0, 4, .inl (fun _ => 0))), ((u 17), .inr (0, [.ref (u 18), .int 0, .int 0, .int 0])), ((u 18), .inl (cA 0, 4, .inl (fun _ => 0))), ((u 19), .inr (0, [.ref (u 20), .int 0, .int 0, .int 0])), ((u 20), .inl (cA 0, 4, .inl (fun _ => 0))), ((u 21), .inr (4, [.ref (u 22), .ref (u 23), .int 0, .int 0, .int 0, .int 0])), ((u 22), .inl (cA 0, 12, .inl (fun _ => 0))), ((u 23), .inl (cA 4, 12, .inr (.inr (.inr (.inr (va_up (va_up (va_up (va_up (va_up (va_up (va_up (va_up (va_up (va_up (va_up (va_up (fun _ => none) 0 (some (u 24))) 1 (some (u 26))) 2 (some (u 28))) 3 (some (u 30))) 4 (some (u 32))) 5 (some (u 34))) 6 (some (u 36))) 7 (some (u 38))) 8 (some (u 40))) 9 (some (u 42))) 10 (some (u 44))) 11 (some (u 46)))))))), ((u 24), .inr (0, [.ref (u 25), .int 0, .int 0, .int 0])), ((u 25), .inl (cA 0, 4, .inl (fun _ => 0))), ((u 26), .inr (0, [.ref (u 27), .int 0, .int 0, .int 0])), ((u 27), .inl (cA 0, 4, .inl (fun _ => 0))), ((u 28), .inr (0, [.ref (u 29), .int 0, .int 0, .int 0])), ((u 29), .inl (cA 0, 4, .inl (fun _ => 0))), ((u 30), .inr (0, [.ref (u 31), .int 0, .int 0, .int 0])), ((u 31), .inl (cA 0, 4, .inl (fun _ => 0))), ((u 32), .inr (0, [.ref (u 33), .int 0, .int 0, .int 0])), ((u 33), .inl (cA 0, 4, .inl (fun _ => 0))), ((u 34), .inr (0, [.ref (u 35), .int 0, .int 0, .int 0])), ((u 35), .inl (cA 0, 4, .inl (fun _ => 0))), ((u 36), .inr (0, [.ref (u 37), .int 0, .int 0, .int 0])), ((u 37), .inl (cA 0, 4, .inl (fun _ => 0))), ((u 38), .inr (0, [.ref (u 39), .int 0, .int 0, .int 0])), ((u 39), .inl (cA 0, 4, .inl (fun _ => 0))), ((u 40), .inr (0, [.ref (u 41), .int 0, .int 0, .int 0])), ((u 41), .inl (cA 0, 4, .inl (fun _ => 0))), ((u 42), .inr (0, [.ref (u 43), .int 0, .int 0, .int 0])), ((u 43), .inl (cA 0, 4, .inl (fun _ => 0))), ((u 44), .inr (0, [.ref (u 45), .int 0, .int 0, .int 0])), ((u 45), .inl (cA 0, 4, .inl (fun _ => 0))), ((u 46), .inr (0, [.ref (u 47), .int 0, .int 0, .int 0])), ((u 47), .inl (cA 0, 4, .inl (fun _ => 0))), ((u 48), .inr (3, [.ref (u 49), .ref (u 50), .ref (u 51), .ref (u 52), .ref (u 53), .ref (u 54), .int 0, .int 0])), ((u 49), .inl (cA 0, 56, .inl (fun _ => 0))), ((u 50), .inl (cA 0, 56, .inl (fun _ => 0))), ((u 51), .inl (cA 0, 56, .inl (fun _ => 0))), ((u 52), .inl (cA 0, 56, .inl (fun _ => 0))), ((u 53), .inl (cA 3, 168, .inr (.inl (fun _ => 0)))), ((u 54), .inl (cA 1, 160, .inl (fun _ => 0))), ((u 55), .inr (5, [.ref (u 56), .int 0])), ((u 56), .inl (cA 0, 5, .inl (fun _ => 0))), ((u 57), .inr (1, [.ref (u 55), .ref (u 58), .ref (u 59), .int 0, .int 0, .int 0])), ((u 58), .inl (cA 0, 5, .inl (fun _ => 0))), ((u 59), .inl (cA 0, 5, .inl (fun _ => 0))), (q1, .inr (7, [.ref (v 0), .ref (v 1), .ref (v 2), .ref (v 3), .ref (v 4), .int 0, .ref (v 5), .int 0, .ref (v 6), .ref (v 7), .ref (v 8), .int 0, .int 0, .int 0, .int 0, .ref (v 9), .ref (v 10), .ref (v 11), .ref (v 12), .ref (v 13), .ref (v 14), .int 0, .ref (v 15), .ref (v 16), .ref (v 17), .ref (v 18), .ref (v 19), .int 0, .int 0, .ref (v 20), .ref (v 21), .ref (v 22), .long 0])), ((v 0), .inl (cA 0, 8, .inl (fun _ => 0))), ((v 1), .inl (cA 0, 32, .inl (fun _ => 0))), ((v 2), .inl (cA 1, 8, .inl (fun _ => 0))), ((v 3), .inl (cA 0, 8, .inl (fun _ => 0))), ((v 4), .inl (cA 0, 8, .inl (fun _ => 0))), ((v 5), .inl (cA 2, 18, .inl (fun _ => 0))), ((v 6), .inl (cA 0, 12, .inl (fun _ => 0))), ((v 7), .inl (cA 0, 12, .inl (fun _ => 0))), ((v 8), .inl (cA 0, 48, .inl (fun _ => 0))), ((v 9), .inl (cA 0, 56, .inl (fun _ => 0))), ((v 10), .inl (cA 0, 56, .inl (fun _ => 0))), ((v 11), .inl (cA 0, 56, .inl (fun _ => 0))), ((v 12), .inl (cA 0, 56, .inl (fun _ => 0))), ((v 13), .inl (cA 0, 56, .inl (fun _ => 0))), ((v 14), .inl (cA 1, 8960, .inl (fun _ => 0))), ((v 15), .inl (cA 0, 5, .inl (fun _ => 0))), ((v 16), .inl (cA 1, 169, .inl (fun _ => 0))), ((v 17), .inl (cA 1, 169, .inl (fun _ => 0))), ((v 18), .inl (cA 1, 169, .inl (fun _ => 0))), ((v 19), .inl (cA 1, 169, .inl (fun _ => 0))), ((v 20), .inl (cA 0, 4, .inl (fun _ => 0))), ((v 21), .inl (cA 0, 5, .inl (fun _ => 0))), ((v 22), .inl (cA 0, 5, .inl (fun _ => 0)))]
theorem wO_at (cA : Nat → ClassId) (q0 : Nat) (u : Nat → Nat) (q1 : Nat) (v : Nat → Nat) : ∀ k, k < 85 → ∃ en, (wO cA q0 u q1 v)[prT.getD k 0]? = some (adO q0 u q1 v k, en)
  | 0, _ => ⟨_, rfl⟩
  | 1, _ => ⟨_, rfl⟩
  | 2, _ => ⟨_, rfl⟩
  | 3, _ => ⟨_, rfl⟩
  | 4, _ => ⟨_, rfl⟩
  | 5, _ => ⟨_, rfl⟩
  | 6, _ => ⟨_, rfl⟩
  | 7, _ => ⟨_, rfl⟩
  | 8, _ => ⟨_, rfl⟩
  | 9, _ => ⟨_, rfl⟩
  | 10, _ => ⟨_, rfl⟩
  | 11, _ => ⟨_, rfl⟩
  | 12, _ => ⟨_, rfl⟩
  | 13, _ => ⟨_, rfl⟩
  | 14, _ => ⟨_, rfl⟩
  | 15, _ => ⟨_, rfl⟩
  | 16, _ => ⟨_, rfl⟩
  | 17, _ => ⟨_, rfl⟩
  | 18, _ => ⟨_, rfl⟩
  | 19, _ => ⟨_, rfl⟩
  | 20, _ => ⟨_, rfl⟩
  | 21, _ => ⟨_, rfl⟩
  | 22, _ => ⟨_, rfl⟩
  | 23, _ => ⟨_, rfl⟩
  | 24, _ => ⟨_, rfl⟩
  | 25, _ => ⟨_, rfl⟩
  | 26, _ => ⟨_, rfl⟩
  | 27, _ => ⟨_, rfl⟩
  | 28, _ => ⟨_, rfl⟩
  | 29, _ => ⟨_, rfl⟩
  | 30, _ => ⟨_, rfl⟩
  | 31, _ => ⟨_, rfl⟩
  | 32, _ => ⟨_, rfl⟩
  | 33, _ => ⟨_, rfl⟩
  | 34, _ => ⟨_, rfl⟩
  | 35, _ => ⟨_, rfl⟩
  | 36, _ => ⟨_, rfl⟩
  | 37, _ => ⟨_, rfl⟩
  | 38, _ => ⟨_, rfl⟩
  | 39, _ => ⟨_, rfl⟩
  | 40, _ => ⟨_, rfl⟩
  | 41, _ => ⟨_, rfl⟩
  | 42, _ => ⟨_, rfl⟩
  | 43, _ => ⟨_, rfl⟩
  | 44, _ => ⟨_, rfl⟩
  | 45, _ => ⟨_, rfl⟩
  | 46, _ => ⟨_, rfl⟩
  | 47, _ => ⟨_, rfl⟩
  | 48, _ => ⟨_, rfl⟩
  | 49, _ => ⟨_, rfl⟩
  | 50, _ => ⟨_, rfl⟩
  | 51, _ => ⟨_, rfl⟩
  | 52, _ => ⟨_, rfl⟩
  | 53, _ => ⟨_, rfl⟩
  | 54, _ => ⟨_, rfl⟩
  | 55, _ => ⟨_, rfl⟩
  | 56, _ => ⟨_, rfl⟩
  | 57, _ => ⟨_, rfl⟩
  | 58, _ => ⟨_, rfl⟩
  | 59, _ => ⟨_, rfl⟩
  | 60, _ => ⟨_, rfl⟩
  | 61, _ => ⟨_, rfl⟩
  | 62, _ => ⟨_, rfl⟩
  | 63, _ => ⟨_, rfl⟩
  | 64, _ => ⟨_, rfl⟩
  | 65, _ => ⟨_, rfl⟩
  | 66, _ => ⟨_, rfl⟩
  | 67, _ => ⟨_, rfl⟩
  | 68, _ => ⟨_, rfl⟩
  | 69, _ => ⟨_, rfl⟩
  | 70, _ => ⟨_, rfl⟩
  | 71, _ => ⟨_, rfl⟩
  | 72, _ => ⟨_, rfl⟩
  | 73, _ => ⟨_, rfl⟩
  | 74, _ => ⟨_, rfl⟩
  | 75, _ => ⟨_, rfl⟩
  | 76, _ => ⟨_, rfl⟩
  | 77, _ => ⟨_, rfl⟩
  | 78, _ => ⟨_, rfl⟩
  | 79, _ => ⟨_, rfl⟩
  | 80, _ => ⟨_, rfl⟩
  | 81, _ => ⟨_, rfl⟩
  | 82, _ => ⟨_, rfl⟩
  | 83, _ => ⟨_, rfl⟩
  | 84, _ => ⟨_, rfl⟩
  | k + 85, h => absurd h (by omega)
set_option maxRecDepth 100000 in
theorem wO_h (D : va_G) (cA : Nat → ClassId) (q0 : Nat) (u : Nat → Nat) (q1 : Nat) (v : Nat → Nat) (zB zS : Nat) {H : Heap} (hP : va_P D f_cl (wO cA q0 u q1 v) H) : ∀ k, k < 85 → va_at D f_cl (adO q0 u q1 v k, f_ent (D, adO q0 u q1 v, cA, zB, zS) σ0 k) H
  | 0, _ => hP 0 _ rfl
  | 1, _ => hP 1 _ rfl
  | 2, _ => hP 2 _ rfl
  | 3, _ => by
    have h : H[(u 2)]? = some (arrV (cA 4) 8 (fun j => va_rf ((va_up (va_up (va_up (va_up (va_up (va_up (va_up (va_up (fun _ => none) 0 (some (u 3))) 1 (some (u 5))) 2 (some (u 7))) 3 (some (u 9))) 4 (some (u 11))) 5 (some (u 13))) 6 (some (u 15))) 7 (some (u 17))) j))) := hP 3 ((u 2), .inl (cA 4, 8, .inr (.inr (.inr (.inr (va_up (va_up (va_up (va_up (va_up (va_up (va_up (va_up (fun _ => none) 0 (some (u 3))) 1 (some (u 5))) 2 (some (u 7))) 3 (some (u 9))) 4 (some (u 11))) 5 (some (u 13))) 6 (some (u 15))) 7 (some (u 17)))))))) rfl
    show H[(u 2)]? = some (arrV (cA 4) 8 (fun j => va_rf (some (adO q0 u q1 v (er 3 j)))))
    rw [h]
    refine congrArg some (arrV_cg (fun j hj => ?_))
    match j, hj with
    | 0, _ => rfl
    | 1, _ => rfl
    | 2, _ => rfl
    | 3, _ => rfl
    | 4, _ => rfl
    | 5, _ => rfl
    | 6, _ => rfl
    | 7, _ => rfl
    | j + 8, hj => exact absurd hj (by omega)
  | 4, _ => hP 20 _ rfl
  | 5, _ => hP 21 _ rfl
  | 6, _ => hP 22 _ rfl
  | 7, _ => hP 23 _ rfl
  | 8, _ => by
    have h : H[(u 23)]? = some (arrV (cA 4) 12 (fun j => va_rf ((va_up (va_up (va_up (va_up (va_up (va_up (va_up (va_up (va_up (va_up (va_up (va_up (fun _ => none) 0 (some (u 24))) 1 (some (u 26))) 2 (some (u 28))) 3 (some (u 30))) 4 (some (u 32))) 5 (some (u 34))) 6 (some (u 36))) 7 (some (u 38))) 8 (some (u 40))) 9 (some (u 42))) 10 (some (u 44))) 11 (some (u 46))) j))) := hP 24 ((u 23), .inl (cA 4, 12, .inr (.inr (.inr (.inr (va_up (va_up (va_up (va_up (va_up (va_up (va_up (va_up (va_up (va_up (va_up (va_up (fun _ => none) 0 (some (u 24))) 1 (some (u 26))) 2 (some (u 28))) 3 (some (u 30))) 4 (some (u 32))) 5 (some (u 34))) 6 (some (u 36))) 7 (some (u 38))) 8 (some (u 40))) 9 (some (u 42))) 10 (some (u 44))) 11 (some (u 46)))))))) rfl
    show H[(u 23)]? = some (arrV (cA 4) 12 (fun j => va_rf (some (adO q0 u q1 v (er 8 j)))))
    rw [h]
    refine congrArg some (arrV_cg (fun j hj => ?_))
    match j, hj with
    | 0, _ => rfl
    | 1, _ => rfl
    | 2, _ => rfl
    | 3, _ => rfl
    | 4, _ => rfl
    | 5, _ => rfl
    | 6, _ => rfl
    | 7, _ => rfl
    | 8, _ => rfl
    | 9, _ => rfl
    | 10, _ => rfl
    | 11, _ => rfl
    | j + 12, hj => exact absurd hj (by omega)
  | 9, _ => hP 49 _ rfl
  | 10, _ => hP 50 _ rfl
  | 11, _ => hP 51 _ rfl
  | 12, _ => hP 52 _ rfl
  | 13, _ => hP 53 _ rfl
  | 14, _ => hP 54 _ rfl
  | 15, _ => hP 55 _ rfl
  | 16, _ => hP 56 _ rfl
  | 17, _ => hP 57 _ rfl
  | 18, _ => hP 58 _ rfl
  | 19, _ => hP 59 _ rfl
  | 20, _ => hP 60 _ rfl
  | 21, _ => hP 4 _ rfl
  | 22, _ => hP 5 _ rfl
  | 23, _ => hP 6 _ rfl
  | 24, _ => hP 7 _ rfl
  | 25, _ => hP 8 _ rfl
  | 26, _ => hP 9 _ rfl
  | 27, _ => hP 10 _ rfl
  | 28, _ => hP 11 _ rfl
  | 29, _ => hP 12 _ rfl
  | 30, _ => hP 13 _ rfl
  | 31, _ => hP 14 _ rfl
  | 32, _ => hP 15 _ rfl
  | 33, _ => hP 16 _ rfl
  | 34, _ => hP 17 _ rfl
  | 35, _ => hP 18 _ rfl
  | 36, _ => hP 19 _ rfl
  | 37, _ => hP 25 _ rfl
  | 38, _ => hP 26 _ rfl
  | 39, _ => hP 27 _ rfl
  | 40, _ => hP 28 _ rfl
  | 41, _ => hP 29 _ rfl
  | 42, _ => hP 30 _ rfl
  | 43, _ => hP 31 _ rfl
  | 44, _ => hP 32 _ rfl
  | 45, _ => hP 33 _ rfl
  | 46, _ => hP 34 _ rfl
  | 47, _ => hP 35 _ rfl
  | 48, _ => hP 36 _ rfl
  | 49, _ => hP 37 _ rfl
  | 50, _ => hP 38 _ rfl
  | 51, _ => hP 39 _ rfl
  | 52, _ => hP 40 _ rfl
  | 53, _ => hP 41 _ rfl
  | 54, _ => hP 42 _ rfl
  | 55, _ => hP 43 _ rfl
  | 56, _ => hP 44 _ rfl
  | 57, _ => hP 45 _ rfl
  | 58, _ => hP 46 _ rfl
  | 59, _ => hP 47 _ rfl
  | 60, _ => hP 48 _ rfl
  | 61, _ => hP 61 _ rfl
  | 62, _ => hP 62 _ rfl
  | 63, _ => hP 63 _ rfl
  | 64, _ => hP 64 _ rfl
  | 65, _ => hP 65 _ rfl
  | 66, _ => hP 66 _ rfl
  | 67, _ => hP 67 _ rfl
  | 68, _ => hP 68 _ rfl
  | 69, _ => hP 69 _ rfl
  | 70, _ => hP 70 _ rfl
  | 71, _ => hP 71 _ rfl
  | 72, _ => hP 72 _ rfl
  | 73, _ => hP 73 _ rfl
  | 74, _ => hP 74 _ rfl
  | 75, _ => hP 75 _ rfl
  | 76, _ => hP 76 _ rfl
  | 77, _ => hP 77 _ rfl
  | 78, _ => hP 78 _ rfl
  | 79, _ => hP 79 _ rfl
  | 80, _ => hP 80 _ rfl
  | 81, _ => hP 81 _ rfl
  | 82, _ => hP 82 _ rfl
  | 83, _ => hP 83 _ rfl
  | 84, _ => hP 84 _ rfl
  | k + 85, h => absurd h (by omega)
theorem lst_B : Cond.laysStatic "FormPlaces" "BASES" "[I" ∈ lw_tbl := List.mem_of_getElem? (i := 300) (by decide +kernel)
theorem lst_S : Cond.laysStatic "FormPlaces" "SQUARE_RESTS" "[I" ∈ lw_tbl := List.mem_of_getElem? (i := 368) (by decide +kernel)
set_option maxHeartbeats 8000000 in
set_option maxRecDepth 100000 in
theorem law_fin {p : Program} {e : Env} {s : State} {m : MethodId} {below : List Frame} {meth : Method} {c : Code} {l : Launch} {b L : Nat} {xs : Nat → Int32} (hL : L ≤ 3072) (C0 : lw_At p s m meth c b L xs) (INV : fS → Prop) (N : Nat) (hO : OPS INV N) (hI0 : INV σ0) {D : va_G} {cA : Nat → ClassId} {q0 q1 : Nat} {u v : Nat → Nat} {H : Heap} {locs : List Loc} {ls : Array Slot} (hK : va_K D f_cl (t5 cA) s) (hP : va_P D f_cl (wO cA q0 u q1 v) H) (hD : va_D (fun q : Nat => s.heap.size ≤ q) (wO cA q0 u q1 v)) (hS : va_S (fun q : Nat => s.heap.size ≤ q) s.heap H locs) (hl : lv_has ls 4 [(0, .ref b), (1, .ref q0), (2, .ref q1), (3, .int 0)]) : W p l e room_1 s m #[Value.ref b] below meth c H [] 600000 7302250 (lw_Z below #[Value.ref b] s) (F0 m 18 ls []) := by
  obtain ⟨hx, hb, hr, hml, hown, hts0, hX, hbl, hlocks, hgv⟩ := id C0
  have hg := flat_of_before _ hgv
  have hge : ∀ k, k < 85 → s.heap.size ≤ adO q0 u q1 v k := fun k hk => by
    obtain ⟨en, h⟩ := wO_at cA q0 u q1 v k hk
    exact hD.2 _ _ h
  have hnj : ∀ i j, i < 85 → j < 85 → adO q0 u q1 v i = adO q0 u q1 v j → i = j := fun i j hi hj h => by
    obtain ⟨e1, h1⟩ := wO_at cA q0 u q1 v i hi
    obtain ⟨e2, h2⟩ := wO_at cA q0 u q1 v j hj
    exact prT_inj i hi j hj (hD.1 _ _ _ _ h1 h2 h)
  have hAf : ∀ zB zS a : Nat, a < s.heap.size → ¬ f_A (D, adO q0 u q1 v, cA, zB, zS) a := fun zB zS a ha ⟨k, hk, h⟩ => by
    have := hge k hk
    have h2 : a = adO q0 u q1 v k := h
    omega
  obtain ⟨zB, hzB, hTB⟩ := va_Tof (tm := .static "FormPlaces" "BASES" "[I") (ty := .int) (N := 7) (f := fun j => .int (f_B j)) (A := fun q => s.heap.size ≤ q) (by decide) (hg _ (by decide +kernel)) (va_eqt (hg (.eq (.length (.static "FormPlaces" "BASES" "[I")) (.int 7)) (by decide +kernel))) (fun j hj => by
    match j, hj with
    | 0, _ => exact va_eqt (hg (.eq (.elem (.static "FormPlaces" "BASES" "[I") (.int 0)) (.int (-1))) (by decide +kernel))
    | 1, _ => exact va_eqt (hg (.eq (.elem (.static "FormPlaces" "BASES" "[I") (.int 1)) (.int 2)) (by decide +kernel))
    | 2, _ => exact va_eqt (hg (.eq (.elem (.static "FormPlaces" "BASES" "[I") (.int 2)) (.int 3)) (by decide +kernel))
    | 3, _ => exact va_eqt (hg (.eq (.elem (.static "FormPlaces" "BASES" "[I") (.int 3)) (.int 5)) (by decide +kernel))
    | 4, _ => exact va_eqt (hg (.eq (.elem (.static "FormPlaces" "BASES" "[I") (.int 4)) (.int 7)) (by decide +kernel))
    | 5, _ => exact va_eqt (hg (.eq (.elem (.static "FormPlaces" "BASES" "[I") (.int 5)) (.int 11)) (by decide +kernel))
    | 6, _ => exact va_eqt (hg (.eq (.elem (.static "FormPlaces" "BASES" "[I") (.int 6)) (.int 13)) (by decide +kernel))
    | j + 7, hj => exact absurd hj (by omega)) (fun a ha => Nat.not_le.mpr ha)
  obtain ⟨zS, hzS, hTS⟩ := va_Tof (tm := .static "FormPlaces" "SQUARE_RESTS" "[I") (ty := .int) (N := 7) (f := fun j => .int (f_Sq j)) (A := fun q => s.heap.size ≤ q) (by decide) (hg _ (by decide +kernel)) (va_eqt (hg (.eq (.length (.static "FormPlaces" "SQUARE_RESTS" "[I")) (.int 7)) (by decide +kernel))) (fun j hj => by
    match j, hj with
    | 0, _ => exact va_eqt (hg (.eq (.elem (.static "FormPlaces" "SQUARE_RESTS" "[I") (.int 0)) (.int 0)) (by decide +kernel))
    | 1, _ => exact va_eqt (hg (.eq (.elem (.static "FormPlaces" "SQUARE_RESTS" "[I") (.int 1)) (.int 0)) (by decide +kernel))
    | 2, _ => exact va_eqt (hg (.eq (.elem (.static "FormPlaces" "SQUARE_RESTS" "[I") (.int 2)) (.int 2)) (by decide +kernel))
    | 3, _ => exact va_eqt (hg (.eq (.elem (.static "FormPlaces" "SQUARE_RESTS" "[I") (.int 3)) (.int 18)) (by decide +kernel))
    | 4, _ => exact va_eqt (hg (.eq (.elem (.static "FormPlaces" "SQUARE_RESTS" "[I") (.int 4)) (.int 22)) (by decide +kernel))
    | 5, _ => exact va_eqt (hg (.eq (.elem (.static "FormPlaces" "SQUARE_RESTS" "[I") (.int 5)) (.int 570)) (by decide +kernel))
    | 6, _ => exact va_eqt (hg (.eq (.elem (.static "FormPlaces" "SQUARE_RESTS" "[I") (.int 6)) (.int 5658)) (by decide +kernel))
    | j + 7, hj => exact absurd hj (by omega)) (fun a ha => Nat.not_le.mpr ha)
  have hA2 : ∀ q, f_A (D, adO q0 u q1 v, cA, zB, zS) q → s.heap.size ≤ q := fun q ⟨k, hk, h⟩ => by
    have := hge k hk
    have h2 : q = adO q0 u q1 v k := h
    omega
  have hok : f_ok (D, adO q0 u q1 v, cA, zB, zS) s := ⟨hK, hnj, ⟨va_Zof (hts0 _ lst_B) (hts0 _ (fTb_of wn_X7)) hzB (hAf zB zS), hTB.narrow hA2⟩, ⟨va_Zof (hts0 _ lst_S) (hts0 _ (fTb_of wn_X7)) hzS (hAf zB zS), hTS.narrow hA2⟩, va_Nw.of rfl (hts0 _ wy_X2_9), va_Nw.of rfl (hts0 _ wy_X6_51), va_Nw.of rfl (hts0 _ wy_X6_63)⟩
  have hh : f_h (D, adO q0 u q1 v, cA, zB, zS) σ0 H := fun k q hq => by
    obtain ⟨hk, rfl⟩ := f_wof hq
    exact wO_h D cA q0 u q1 v zB zS hP k hk
  have hS2 : va_S (f_A (D, adO q0 u q1 v, cA, zB, zS)) s.heap H [] := ⟨hS.1, fun q h1 _ => hS.2.1 q h1 (Nat.not_le.mpr h1), fun q h => by cases h⟩
  exact law_loop hL C0 (D, adO q0 u q1 v, cA, zB, zS) hok hge INV N hO (L + 1) 0 σ0 H [] ls (Nat.zero_le L) (by omega) hI0 hh hS2 hl
set_option maxHeartbeats 8000000 in
set_option maxRecDepth 100000 in
theorem law_start {p : Program} {e : Env} {s : State} {m : MethodId} {below : List Frame} {meth : Method} {c : Code} (l : Launch) {b L : Nat} {xs : Nat → Int32} (hL : L ≤ 3072) (C0 : lw_At p s m meth c b L xs) (INV : fS → Prop) (N : Nat) (hO : OPS INV N) (hI0 : INV σ0) : W p l e room_1 s m #[Value.ref b] below meth c s.heap [] 0 0 (lw_Z below #[Value.ref b] s) (entryFrame m ([Value.ref b] : List Value).toArray 4) := by
  obtain ⟨hx, hb, hr, hml, hown, hts0, hX, hbl, hlocks, hgv⟩ := id C0
  have hts : ∀ w ∈ fTb, w.before #[Value.ref b] s = true := fun w hw => hts0 w (fTb_of hw)
  have hA : ∀ q : Nat, s.heap.size ≤ q → (fun q : Nat => s.heap.size ≤ q) q := fun _ h => h
  obtain ⟨c0, i0, hKn0⟩ := u_known (C := RX0) (T := TX0) (N := 4) (n := 4) hts inX0 (hts _ wb_X0)
  obtain ⟨c1, i1, hKn1⟩ := u_known (C := RX1) (T := TX1) (N := 6) (n := 6) hts inX1 (hts _ wb_X1)
  obtain ⟨c2, i2, hKn2⟩ := u_known (C := RX3) (T := TX3) (N := 2) (n := 2) hts inX3 (hts _ wb_X3)
  obtain ⟨c3, i3, hKn3⟩ := u_known (C := RX4) (T := TX4) (N := 8) (n := 8) hts inX4 (hts _ wb_X4)
  obtain ⟨c4, i4, hKn4⟩ := u_known (C := RX5) (T := TX5) (N := 6) (n := 6) hts inX5 (hts _ wb_X5)
  obtain ⟨c5, i5, hKn5⟩ := u_known (C := RX6) (T := TX6) (N := 2) (n := 2) hts inX6 (hts _ wb_X6)
  obtain ⟨c6, i6, hKn6⟩ := u_known (C := RX7) (T := TX7) (N := 7) (n := 7) hts inX7 (hts _ wb_X7)
  obtain ⟨c7, i7, hKn7⟩ := u_known (C := RX8) (T := TX8) (N := 33) (n := 33) hts inX8 (hts _ wb_X8)
  obtain ⟨dC, dI, hKc⟩ : ∃ (dC : Nat → ClassId) (dI : Nat → Nat → Nat), ∀ (k : Nat) (q : vw_C), f_cl[k]? = some q → u_Kn s q.1 q.2.1 q.2.2 (dC k) (dI k) := by
    refine ⟨fun k => match k with | 0 => c0 | 1 => c1 | 2 => c2 | 3 => c3 | 4 => c4 | 5 => c5 | 6 => c6 | _ => c7, fun k => match k with | 0 => i0 | 1 => i1 | 2 => i2 | 3 => i3 | 4 => i4 | 5 => i5 | 6 => i6 | _ => i7, ?_⟩
    intro k q hq
    match k, hq with
    | 0, hq => cases hq; exact hKn0
    | 1, hq => cases hq; exact hKn1
    | 2, hq => cases hq; exact hKn2
    | 3, hq => cases hq; exact hKn3
    | 4, hq => cases hq; exact hKn4
    | 5, hq => cases hq; exact hKn5
    | 6, hq => cases hq; exact hKn6
    | 7, hq => cases hq; exact hKn7
    | k + 8, hq => simp [f_cl] at hq
  obtain ⟨a0, ka0, co0, fa0, fb0, fc0⟩ := Cond.arrayClass_spec (hts _ wa_int)
  obtain ⟨a1, ka1, co1, fa1, fb1, fc1⟩ := Cond.arrayClass_spec (hts _ wa_boolean)
  obtain ⟨a2, ka2, co2, fa2, fb2, fc2⟩ := Cond.arrayClass_spec (hts _ wa_byte)
  obtain ⟨a3, ka3, co3, fa3, fb3, fc3⟩ := Cond.arrayClass_spec (hts _ wa_long)
  have hAO : va_AO "FormPlaces$Form" s := va_AO.of (hts0 _ wa_over)
  obtain ⟨co4, a4, ka4, fd4, fe4, fb4, fc4, fa4⟩ := Cond.arrayOver_spec (hts0 _ wa_over)
  obtain ⟨cA, hcA⟩ : ∃ cA : Nat → ClassId, cA = (fun k => match k with | 0 => a0 | 1 => a1 | 2 => a2 | 3 => a3 | _ => a4) := ⟨_, rfl⟩
  have hK : va_K (dC, dI) f_cl (t5 cA) s := by
    refine ⟨hKc, fun k q hq => ?_⟩
    rw [hcA] at hq
    match k, hq with
    | 0, hq => cases hq; exact ⟨fun n z => ⟨fun k h => (by cases h), ka0, fb0, co0, fc0⟩, fa0⟩
    | 1, hq => cases hq; exact ⟨fun n z => ⟨fun k h => (by cases h), ka1, fb1, co1, fc1⟩, fa1⟩
    | 2, hq => cases hq; exact ⟨fun n z => ⟨fun k h => (by cases h), ka2, fb2, co2, fc2⟩, fa2⟩
    | 3, hq => cases hq; exact ⟨fun n z => ⟨fun k h => (by cases h), ka3, fb3, co3, fc3⟩, fa3⟩
    | 4, hq => cases hq; exact ⟨fun n z => ⟨fun k h => (by cases h), ka4, fb4, co4, fc4⟩, ka4, co4, fb4, fc4, fd4, fa4⟩
    | k + 5, hq => simp [t5] at hq
  have hkC : kC (dC, dI) cA s := ⟨hK, hAO, va_Nw.of rfl (hts0 _ wx_X7_9), va_Nw.of rfl (hts0 _ wx_X7_22), va_Nw.of rfl (hts0 _ wx_X5_21), va_Nw.of rfl (hts0 _ wx_X7_36), va_Nw.of rfl (hts0 _ wx_X7_43)⟩
  have hS : va_S (fun q : Nat => s.heap.size ≤ q) s.heap s.heap [] := va_S.rf
  have hP : va_P (dC, dI) f_cl [] s.heap := fun k q h => by simp at h
  have hD : va_D (fun q : Nat => s.heap.size ≤ q) [] := ⟨fun i j p q h => by simp at h, fun k q h => by simp at h⟩
  have hl := lv_entry ([.ref b]) (n := 4) (Nat.le_of_ble_eq_true rfl)
  rw [lg_entry_eq]
  generalize (lg_sl ([.ref b]) ++ List.replicate (4 - (lg_sl ([.ref b])).length) Slot.unset).toArray = ls at hl ⊢
  have hl : lv_has ls 4 [(0, .ref b)] := hl
  refine va_new (ci := 6) (fs := [.null, .null, .null, .null, .null, .null, .null]) (C := RX7) (T := TX7) (N := 7) hx hb hts inX7 tyX7 tyX7_ok hown (hts _ wq_L_7) (hts _ wb_X7) (hts _ wn_X7) hK hP hD hS hA rfl dv_X7 (Nat.le_of_ble_eq_true rfl) (Nat.le_of_ble_eq_true rfl) dL_law_0 (fun q0 H hP hD hS => ?_)
  have hP : va_P (dC, dI) f_cl [(q0, .inr (6, [.null, .null, .null, .null, .null, .null, .null]))] H := hP
  have hD : va_D (fun q : Nat => s.heap.size ≤ q) [(q0, .inr (6, [.null, .null, .null, .null, .null, .null, .null]))] := hD
  refine W.widen (k := 1) (n := 7) (Nat.le_of_ble_eq_true rfl) (Nat.le_of_ble_eq_true rfl) ?_
  refine lv_dup hx hb dL_law_3 rfl ?_
  have hPc := hP.sub (ws' := [(q0, .inr (6, [.null, .null, .null, .null, .null, .null, .null]))]) [0] rfl
  have hDc := hD.sub (ws' := [(q0, .inr (6, [.null, .null, .null, .null, .null, .null, .null]))]) [0] (by decide) rfl
  have hFc := va_free (wc := [(q0, .inr (6, [.null, .null, .null, .null, .null, .null, .null]))]) hD hS hA [0] rfl
  refine va_callv (va_runI (As := []) (rest := [.ref q0]) ⟨hx, hb, hml, hown, hts⟩ (c_X7_init l (dC, dI) cA q0 H.size) (cwI 0 hts (f_good wc_X7_init) rfl rfl rfl (hts _ wn_X7) (hts _ wm_L_9) (hts _ wi_X7_init) rfl hdi_X7 ⟨Nat.le_of_ble_eq_true rfl, Nat.le_of_ble_eq_true rfl⟩) ⟨cP_blind, fun U hU hW => ⟨rfl, by rw [hU], by rw [hU]; exact hPc, hkC.go hW, hDc.weaken (fun _ _ _ _ => trivial)⟩⟩ rfl rfl hl.1 rfl (lv_room (Nat.le_of_ble_eq_true rfl)) dL_law_4 ⟨Nat.le_of_ble_eq_true rfl, Nat.le_of_ble_eq_true rfl⟩) hS (fun q _ h => hFc q h) hFc (fun u t H1 locs ht hvm hw hB hz1 hk1 hS => ?_)
  obtain ⟨hP1, hD1⟩ := hB
  rw [ht] at hP1
  obtain ⟨hP, hD⟩ := va_join (wr := []) (w1 := [(q0, .inr (6, [.ref (u 0), .ref (u 2), .ref (u 19), .ref (u 21), .ref (u 48), .ref (u 55), .ref (u 57)])), ((u 0), .inr (2, [.ref (u 1), .int 0])), ((u 1), .inl (cA 0, 18, .inl (fun _ => 0))), ((u 2), .inl (cA 4, 8, .inr (.inr (.inr (.inr (va_up (va_up (va_up (va_up (va_up (va_up (va_up (va_up (fun _ => none) 0 (some (u 3))) 1 (some (u 5))) 2 (some (u 7))) 3 (some (u 9))) 4 (some (u 11))) 5 (some (u 13))) 6 (some (u 15))) 7 (some (u 17)))))))), ((u 3), .inr (0, [.ref (u 4), .int 0, .int 0, .int 0])), ((u 4), .inl (cA 0, 4, .inl (fun _ => 0))), ((u 5), .inr (0, [.ref (u 6), .int 0, .int 0, .int 0])), ((u 6), .inl (cA 0, 4, .inl (fun _ => 0))), ((u 7), .inr (0, [.ref (u 8), .int 0, .int 0, .int 0])), ((u 8), .inl (cA 0, 4, .inl (fun _ => 0))), ((u 9), .inr (0, [.ref (u 10), .int 0, .int 0, .int 0])), ((u 10), .inl (cA 0, 4, .inl (fun _ => 0))), ((u 11), .inr (0, [.ref (u 12), .int 0, .int 0, .int 0])), ((u 12), .inl (cA 0, 4, .inl (fun _ => 0))), ((u 13), .inr (0, [.ref (u 14), .int 0, .int 0, .int 0])), ((u 14), .inl (cA 0, 4, .inl (fun _ => 0))), ((u 15), .inr (0, [.ref (u 16), .int 0, .int 0, .int 0])), ((u 16), .inl (cA 0, 4, .inl (fun _ => 0))), ((u 17), .inr (0, [.ref (u 18), .int 0, .int 0, .int 0])), ((u 18), .inl (cA 0, 4, .inl (fun _ => 0))), ((u 19), .inr (0, [.ref (u 20), .int 0, .int 0, .int 0])), ((u 20), .inl (cA 0, 4, .inl (fun _ => 0))), ((u 21), .inr (4, [.ref (u 22), .ref (u 23), .int 0, .int 0, .int 0, .int 0])), ((u 22), .inl (cA 0, 12, .inl (fun _ => 0))), ((u 23), .inl (cA 4, 12, .inr (.inr (.inr (.inr (va_up (va_up (va_up (va_up (va_up (va_up (va_up (va_up (va_up (va_up (va_up (va_up (fun _ => none) 0 (some (u 24))) 1 (some (u 26))) 2 (some (u 28))) 3 (some (u 30))) 4 (some (u 32))) 5 (some (u 34))) 6 (some (u 36))) 7 (some (u 38))) 8 (some (u 40))) 9 (some (u 42))) 10 (some (u 44))) 11 (some (u 46)))))))), ((u 24), .inr (0, [.ref (u 25), .int 0, .int 0, .int 0])), ((u 25), .inl (cA 0, 4, .inl (fun _ => 0))), ((u 26), .inr (0, [.ref (u 27), .int 0, .int 0, .int 0])), ((u 27), .inl (cA 0, 4, .inl (fun _ => 0))), ((u 28), .inr (0, [.ref (u 29), .int 0, .int 0, .int 0])), ((u 29), .inl (cA 0, 4, .inl (fun _ => 0))), ((u 30), .inr (0, [.ref (u 31), .int 0, .int 0, .int 0])), ((u 31), .inl (cA 0, 4, .inl (fun _ => 0))), ((u 32), .inr (0, [.ref (u 33), .int 0, .int 0, .int 0])), ((u 33), .inl (cA 0, 4, .inl (fun _ => 0))), ((u 34), .inr (0, [.ref (u 35), .int 0, .int 0, .int 0])), ((u 35), .inl (cA 0, 4, .inl (fun _ => 0))), ((u 36), .inr (0, [.ref (u 37), .int 0, .int 0, .int 0])), ((u 37), .inl (cA 0, 4, .inl (fun _ => 0))), ((u 38), .inr (0, [.ref (u 39), .int 0, .int 0, .int 0])), ((u 39), .inl (cA 0, 4, .inl (fun _ => 0))), ((u 40), .inr (0, [.ref (u 41), .int 0, .int 0, .int 0])), ((u 41), .inl (cA 0, 4, .inl (fun _ => 0))), ((u 42), .inr (0, [.ref (u 43), .int 0, .int 0, .int 0])), ((u 43), .inl (cA 0, 4, .inl (fun _ => 0))), ((u 44), .inr (0, [.ref (u 45), .int 0, .int 0, .int 0])), ((u 45), .inl (cA 0, 4, .inl (fun _ => 0))), ((u 46), .inr (0, [.ref (u 47), .int 0, .int 0, .int 0])), ((u 47), .inl (cA 0, 4, .inl (fun _ => 0))), ((u 48), .inr (3, [.ref (u 49), .ref (u 50), .ref (u 51), .ref (u 52), .ref (u 53), .ref (u 54), .int 0, .int 0])), ((u 49), .inl (cA 0, 56, .inl (fun _ => 0))), ((u 50), .inl (cA 0, 56, .inl (fun _ => 0))), ((u 51), .inl (cA 0, 56, .inl (fun _ => 0))), ((u 52), .inl (cA 0, 56, .inl (fun _ => 0))), ((u 53), .inl (cA 3, 168, .inr (.inl (fun _ => 0)))), ((u 54), .inl (cA 1, 160, .inl (fun _ => 0))), ((u 55), .inr (5, [.ref (u 56), .int 0])), ((u 56), .inl (cA 0, 5, .inl (fun _ => 0))), ((u 57), .inr (1, [.ref (u 55), .ref (u 58), .ref (u 59), .int 0, .int 0, .int 0])), ((u 58), .inl (cA 0, 5, .inl (fun _ => 0))), ((u 59), .inl (cA 0, 5, .inl (fun _ => 0)))]) hP hD [0] [] rfl rfl (by decide) (by decide) hk1 hFc hP1 hD1
  generalize H1 = H at hP hS ⊢
  have hP : va_P (dC, dI) f_cl [(q0, .inr (6, [.ref (u 0), .ref (u 2), .ref (u 19), .ref (u 21), .ref (u 48), .ref (u 55), .ref (u 57)])), ((u 0), .inr (2, [.ref (u 1), .int 0])), ((u 1), .inl (cA 0, 18, .inl (fun _ => 0))), ((u 2), .inl (cA 4, 8, .inr (.inr (.inr (.inr (va_up (va_up (va_up (va_up (va_up (va_up (va_up (va_up (fun _ => none) 0 (some (u 3))) 1 (some (u 5))) 2 (some (u 7))) 3 (some (u 9))) 4 (some (u 11))) 5 (some (u 13))) 6 (some (u 15))) 7 (some (u 17)))))))), ((u 3), .inr (0, [.ref (u 4), .int 0, .int 0, .int 0])), ((u 4), .inl (cA 0, 4, .inl (fun _ => 0))), ((u 5), .inr (0, [.ref (u 6), .int 0, .int 0, .int 0])), ((u 6), .inl (cA 0, 4, .inl (fun _ => 0))), ((u 7), .inr (0, [.ref (u 8), .int 0, .int 0, .int 0])), ((u 8), .inl (cA 0, 4, .inl (fun _ => 0))), ((u 9), .inr (0, [.ref (u 10), .int 0, .int 0, .int 0])), ((u 10), .inl (cA 0, 4, .inl (fun _ => 0))), ((u 11), .inr (0, [.ref (u 12), .int 0, .int 0, .int 0])), ((u 12), .inl (cA 0, 4, .inl (fun _ => 0))), ((u 13), .inr (0, [.ref (u 14), .int 0, .int 0, .int 0])), ((u 14), .inl (cA 0, 4, .inl (fun _ => 0))), ((u 15), .inr (0, [.ref (u 16), .int 0, .int 0, .int 0])), ((u 16), .inl (cA 0, 4, .inl (fun _ => 0))), ((u 17), .inr (0, [.ref (u 18), .int 0, .int 0, .int 0])), ((u 18), .inl (cA 0, 4, .inl (fun _ => 0))), ((u 19), .inr (0, [.ref (u 20), .int 0, .int 0, .int 0])), ((u 20), .inl (cA 0, 4, .inl (fun _ => 0))), ((u 21), .inr (4, [.ref (u 22), .ref (u 23), .int 0, .int 0, .int 0, .int 0])), ((u 22), .inl (cA 0, 12, .inl (fun _ => 0))), ((u 23), .inl (cA 4, 12, .inr (.inr (.inr (.inr (va_up (va_up (va_up (va_up (va_up (va_up (va_up (va_up (va_up (va_up (va_up (va_up (fun _ => none) 0 (some (u 24))) 1 (some (u 26))) 2 (some (u 28))) 3 (some (u 30))) 4 (some (u 32))) 5 (some (u 34))) 6 (some (u 36))) 7 (some (u 38))) 8 (some (u 40))) 9 (some (u 42))) 10 (some (u 44))) 11 (some (u 46)))))))), ((u 24), .inr (0, [.ref (u 25), .int 0, .int 0, .int 0])), ((u 25), .inl (cA 0, 4, .inl (fun _ => 0))), ((u 26), .inr (0, [.ref (u 27), .int 0, .int 0, .int 0])), ((u 27), .inl (cA 0, 4, .inl (fun _ => 0))), ((u 28), .inr (0, [.ref (u 29), .int 0, .int 0, .int 0])), ((u 29), .inl (cA 0, 4, .inl (fun _ => 0))), ((u 30), .inr (0, [.ref (u 31), .int 0, .int 0, .int 0])), ((u 31), .inl (cA 0, 4, .inl (fun _ => 0))), ((u 32), .inr (0, [.ref (u 33), .int 0, .int 0, .int 0])), ((u 33), .inl (cA 0, 4, .inl (fun _ => 0))), ((u 34), .inr (0, [.ref (u 35), .int 0, .int 0, .int 0])), ((u 35), .inl (cA 0, 4, .inl (fun _ => 0))), ((u 36), .inr (0, [.ref (u 37), .int 0, .int 0, .int 0])), ((u 37), .inl (cA 0, 4, .inl (fun _ => 0))), ((u 38), .inr (0, [.ref (u 39), .int 0, .int 0, .int 0])), ((u 39), .inl (cA 0, 4, .inl (fun _ => 0))), ((u 40), .inr (0, [.ref (u 41), .int 0, .int 0, .int 0])), ((u 41), .inl (cA 0, 4, .inl (fun _ => 0))), ((u 42), .inr (0, [.ref (u 43), .int 0, .int 0, .int 0])), ((u 43), .inl (cA 0, 4, .inl (fun _ => 0))), ((u 44), .inr (0, [.ref (u 45), .int 0, .int 0, .int 0])), ((u 45), .inl (cA 0, 4, .inl (fun _ => 0))), ((u 46), .inr (0, [.ref (u 47), .int 0, .int 0, .int 0])), ((u 47), .inl (cA 0, 4, .inl (fun _ => 0))), ((u 48), .inr (3, [.ref (u 49), .ref (u 50), .ref (u 51), .ref (u 52), .ref (u 53), .ref (u 54), .int 0, .int 0])), ((u 49), .inl (cA 0, 56, .inl (fun _ => 0))), ((u 50), .inl (cA 0, 56, .inl (fun _ => 0))), ((u 51), .inl (cA 0, 56, .inl (fun _ => 0))), ((u 52), .inl (cA 0, 56, .inl (fun _ => 0))), ((u 53), .inl (cA 3, 168, .inr (.inl (fun _ => 0)))), ((u 54), .inl (cA 1, 160, .inl (fun _ => 0))), ((u 55), .inr (5, [.ref (u 56), .int 0])), ((u 56), .inl (cA 0, 5, .inl (fun _ => 0))), ((u 57), .inr (1, [.ref (u 55), .ref (u 58), .ref (u 59), .int 0, .int 0, .int 0])), ((u 58), .inl (cA 0, 5, .inl (fun _ => 0))), ((u 59), .inl (cA 0, 5, .inl (fun _ => 0)))] H := hP
  have hD : va_D (fun q : Nat => s.heap.size ≤ q) [(q0, .inr (6, [.ref (u 0), .ref (u 2), .ref (u 19), .ref (u 21), .ref (u 48), .ref (u 55), .ref (u 57)])), ((u 0), .inr (2, [.ref (u 1), .int 0])), ((u 1), .inl (cA 0, 18, .inl (fun _ => 0))), ((u 2), .inl (cA 4, 8, .inr (.inr (.inr (.inr (va_up (va_up (va_up (va_up (va_up (va_up (va_up (va_up (fun _ => none) 0 (some (u 3))) 1 (some (u 5))) 2 (some (u 7))) 3 (some (u 9))) 4 (some (u 11))) 5 (some (u 13))) 6 (some (u 15))) 7 (some (u 17)))))))), ((u 3), .inr (0, [.ref (u 4), .int 0, .int 0, .int 0])), ((u 4), .inl (cA 0, 4, .inl (fun _ => 0))), ((u 5), .inr (0, [.ref (u 6), .int 0, .int 0, .int 0])), ((u 6), .inl (cA 0, 4, .inl (fun _ => 0))), ((u 7), .inr (0, [.ref (u 8), .int 0, .int 0, .int 0])), ((u 8), .inl (cA 0, 4, .inl (fun _ => 0))), ((u 9), .inr (0, [.ref (u 10), .int 0, .int 0, .int 0])), ((u 10), .inl (cA 0, 4, .inl (fun _ => 0))), ((u 11), .inr (0, [.ref (u 12), .int 0, .int 0, .int 0])), ((u 12), .inl (cA 0, 4, .inl (fun _ => 0))), ((u 13), .inr (0, [.ref (u 14), .int 0, .int 0, .int 0])), ((u 14), .inl (cA 0, 4, .inl (fun _ => 0))), ((u 15), .inr (0, [.ref (u 16), .int 0, .int 0, .int 0])), ((u 16), .inl (cA 0, 4, .inl (fun _ => 0))), ((u 17), .inr (0, [.ref (u 18), .int 0, .int 0, .int 0])), ((u 18), .inl (cA 0, 4, .inl (fun _ => 0))), ((u 19), .inr (0, [.ref (u 20), .int 0, .int 0, .int 0])), ((u 20), .inl (cA 0, 4, .inl (fun _ => 0))), ((u 21), .inr (4, [.ref (u 22), .ref (u 23), .int 0, .int 0, .int 0, .int 0])), ((u 22), .inl (cA 0, 12, .inl (fun _ => 0))), ((u 23), .inl (cA 4, 12, .inr (.inr (.inr (.inr (va_up (va_up (va_up (va_up (va_up (va_up (va_up (va_up (va_up (va_up (va_up (va_up (fun _ => none) 0 (some (u 24))) 1 (some (u 26))) 2 (some (u 28))) 3 (some (u 30))) 4 (some (u 32))) 5 (some (u 34))) 6 (some (u 36))) 7 (some (u 38))) 8 (some (u 40))) 9 (some (u 42))) 10 (some (u 44))) 11 (some (u 46)))))))), ((u 24), .inr (0, [.ref (u 25), .int 0, .int 0, .int 0])), ((u 25), .inl (cA 0, 4, .inl (fun _ => 0))), ((u 26), .inr (0, [.ref (u 27), .int 0, .int 0, .int 0])), ((u 27), .inl (cA 0, 4, .inl (fun _ => 0))), ((u 28), .inr (0, [.ref (u 29), .int 0, .int 0, .int 0])), ((u 29), .inl (cA 0, 4, .inl (fun _ => 0))), ((u 30), .inr (0, [.ref (u 31), .int 0, .int 0, .int 0])), ((u 31), .inl (cA 0, 4, .inl (fun _ => 0))), ((u 32), .inr (0, [.ref (u 33), .int 0, .int 0, .int 0])), ((u 33), .inl (cA 0, 4, .inl (fun _ => 0))), ((u 34), .inr (0, [.ref (u 35), .int 0, .int 0, .int 0])), ((u 35), .inl (cA 0, 4, .inl (fun _ => 0))), ((u 36), .inr (0, [.ref (u 37), .int 0, .int 0, .int 0])), ((u 37), .inl (cA 0, 4, .inl (fun _ => 0))), ((u 38), .inr (0, [.ref (u 39), .int 0, .int 0, .int 0])), ((u 39), .inl (cA 0, 4, .inl (fun _ => 0))), ((u 40), .inr (0, [.ref (u 41), .int 0, .int 0, .int 0])), ((u 41), .inl (cA 0, 4, .inl (fun _ => 0))), ((u 42), .inr (0, [.ref (u 43), .int 0, .int 0, .int 0])), ((u 43), .inl (cA 0, 4, .inl (fun _ => 0))), ((u 44), .inr (0, [.ref (u 45), .int 0, .int 0, .int 0])), ((u 45), .inl (cA 0, 4, .inl (fun _ => 0))), ((u 46), .inr (0, [.ref (u 47), .int 0, .int 0, .int 0])), ((u 47), .inl (cA 0, 4, .inl (fun _ => 0))), ((u 48), .inr (3, [.ref (u 49), .ref (u 50), .ref (u 51), .ref (u 52), .ref (u 53), .ref (u 54), .int 0, .int 0])), ((u 49), .inl (cA 0, 56, .inl (fun _ => 0))), ((u 50), .inl (cA 0, 56, .inl (fun _ => 0))), ((u 51), .inl (cA 0, 56, .inl (fun _ => 0))), ((u 52), .inl (cA 0, 56, .inl (fun _ => 0))), ((u 53), .inl (cA 3, 168, .inr (.inl (fun _ => 0)))), ((u 54), .inl (cA 1, 160, .inl (fun _ => 0))), ((u 55), .inr (5, [.ref (u 56), .int 0])), ((u 56), .inl (cA 0, 5, .inl (fun _ => 0))), ((u 57), .inr (1, [.ref (u 55), .ref (u 58), .ref (u 59), .int 0, .int 0, .int 0])), ((u 58), .inl (cA 0, 5, .inl (fun _ => 0))), ((u 59), .inl (cA 0, 5, .inl (fun _ => 0)))] := hD
  refine W.widen (k := 61) (n := 816) (Nat.le_of_ble_eq_true rfl) (Nat.le_of_ble_eq_true rfl) ?_
  refine lv_astore_n (lv' := [(1, .ref q0), (0, .ref b)]) hx hb dL_law_7 rfl hl (by decide) rfl (fun ls hl => ?_)
  refine va_new (ci := 7) (fs := [.null, .null, .null, .null, .null, .int 0, .null, .int 0, .null, .null, .null, .int 0, .int 0, .int 0, .int 0, .null, .null, .null, .null, .null, .null, .int 0, .null, .null, .null, .null, .null, .int 0, .int 0, .null, .null, .null, .long 0]) (C := RX8) (T := TX8) (N := 33) hx hb hts inX8 tyX8 tyX8_ok hown (hts _ wq_L_10) (hts _ wb_X8) (hts _ wn_X8) hK hP hD hS hA rfl dv_X8 (Nat.le_of_ble_eq_true rfl) (Nat.le_of_ble_eq_true rfl) dL_law_8 (fun q1 H hP hD hS => ?_)
  have hP : va_P (dC, dI) f_cl [(q0, .inr (6, [.ref (u 0), .ref (u 2), .ref (u 19), .ref (u 21), .ref (u 48), .ref (u 55), .ref (u 57)])), ((u 0), .inr (2, [.ref (u 1), .int 0])), ((u 1), .inl (cA 0, 18, .inl (fun _ => 0))), ((u 2), .inl (cA 4, 8, .inr (.inr (.inr (.inr (va_up (va_up (va_up (va_up (va_up (va_up (va_up (va_up (fun _ => none) 0 (some (u 3))) 1 (some (u 5))) 2 (some (u 7))) 3 (some (u 9))) 4 (some (u 11))) 5 (some (u 13))) 6 (some (u 15))) 7 (some (u 17)))))))), ((u 3), .inr (0, [.ref (u 4), .int 0, .int 0, .int 0])), ((u 4), .inl (cA 0, 4, .inl (fun _ => 0))), ((u 5), .inr (0, [.ref (u 6), .int 0, .int 0, .int 0])), ((u 6), .inl (cA 0, 4, .inl (fun _ => 0))), ((u 7), .inr (0, [.ref (u 8), .int 0, .int 0, .int 0])), ((u 8), .inl (cA 0, 4, .inl (fun _ => 0))), ((u 9), .inr (0, [.ref (u 10), .int 0, .int 0, .int 0])), ((u 10), .inl (cA 0, 4, .inl (fun _ => 0))), ((u 11), .inr (0, [.ref (u 12), .int 0, .int 0, .int 0])), ((u 12), .inl (cA 0, 4, .inl (fun _ => 0))), ((u 13), .inr (0, [.ref (u 14), .int 0, .int 0, .int 0])), ((u 14), .inl (cA 0, 4, .inl (fun _ => 0))), ((u 15), .inr (0, [.ref (u 16), .int 0, .int 0, .int 0])), ((u 16), .inl (cA 0, 4, .inl (fun _ => 0))), ((u 17), .inr (0, [.ref (u 18), .int 0, .int 0, .int 0])), ((u 18), .inl (cA 0, 4, .inl (fun _ => 0))), ((u 19), .inr (0, [.ref (u 20), .int 0, .int 0, .int 0])), ((u 20), .inl (cA 0, 4, .inl (fun _ => 0))), ((u 21), .inr (4, [.ref (u 22), .ref (u 23), .int 0, .int 0, .int 0, .int 0])), ((u 22), .inl (cA 0, 12, .inl (fun _ => 0))), ((u 23), .inl (cA 4, 12, .inr (.inr (.inr (.inr (va_up (va_up (va_up (va_up (va_up (va_up (va_up (va_up (va_up (va_up (va_up (va_up (fun _ => none) 0 (some (u 24))) 1 (some (u 26))) 2 (some (u 28))) 3 (some (u 30))) 4 (some (u 32))) 5 (some (u 34))) 6 (some (u 36))) 7 (some (u 38))) 8 (some (u 40))) 9 (some (u 42))) 10 (some (u 44))) 11 (some (u 46)))))))), ((u 24), .inr (0, [.ref (u 25), .int 0, .int 0, .int 0])), ((u 25), .inl (cA 0, 4, .inl (fun _ => 0))), ((u 26), .inr (0, [.ref (u 27), .int 0, .int 0, .int 0])), ((u 27), .inl (cA 0, 4, .inl (fun _ => 0))), ((u 28), .inr (0, [.ref (u 29), .int 0, .int 0, .int 0])), ((u 29), .inl (cA 0, 4, .inl (fun _ => 0))), ((u 30), .inr (0, [.ref (u 31), .int 0, .int 0, .int 0])), ((u 31), .inl (cA 0, 4, .inl (fun _ => 0))), ((u 32), .inr (0, [.ref (u 33), .int 0, .int 0, .int 0])), ((u 33), .inl (cA 0, 4, .inl (fun _ => 0))), ((u 34), .inr (0, [.ref (u 35), .int 0, .int 0, .int 0])), ((u 35), .inl (cA 0, 4, .inl (fun _ => 0))), ((u 36), .inr (0, [.ref (u 37), .int 0, .int 0, .int 0])), ((u 37), .inl (cA 0, 4, .inl (fun _ => 0))), ((u 38), .inr (0, [.ref (u 39), .int 0, .int 0, .int 0])), ((u 39), .inl (cA 0, 4, .inl (fun _ => 0))), ((u 40), .inr (0, [.ref (u 41), .int 0, .int 0, .int 0])), ((u 41), .inl (cA 0, 4, .inl (fun _ => 0))), ((u 42), .inr (0, [.ref (u 43), .int 0, .int 0, .int 0])), ((u 43), .inl (cA 0, 4, .inl (fun _ => 0))), ((u 44), .inr (0, [.ref (u 45), .int 0, .int 0, .int 0])), ((u 45), .inl (cA 0, 4, .inl (fun _ => 0))), ((u 46), .inr (0, [.ref (u 47), .int 0, .int 0, .int 0])), ((u 47), .inl (cA 0, 4, .inl (fun _ => 0))), ((u 48), .inr (3, [.ref (u 49), .ref (u 50), .ref (u 51), .ref (u 52), .ref (u 53), .ref (u 54), .int 0, .int 0])), ((u 49), .inl (cA 0, 56, .inl (fun _ => 0))), ((u 50), .inl (cA 0, 56, .inl (fun _ => 0))), ((u 51), .inl (cA 0, 56, .inl (fun _ => 0))), ((u 52), .inl (cA 0, 56, .inl (fun _ => 0))), ((u 53), .inl (cA 3, 168, .inr (.inl (fun _ => 0)))), ((u 54), .inl (cA 1, 160, .inl (fun _ => 0))), ((u 55), .inr (5, [.ref (u 56), .int 0])), ((u 56), .inl (cA 0, 5, .inl (fun _ => 0))), ((u 57), .inr (1, [.ref (u 55), .ref (u 58), .ref (u 59), .int 0, .int 0, .int 0])), ((u 58), .inl (cA 0, 5, .inl (fun _ => 0))), ((u 59), .inl (cA 0, 5, .inl (fun _ => 0))), (q1, .inr (7, [.null, .null, .null, .null, .null, .int 0, .null, .int 0, .null, .null, .null, .int 0, .int 0, .int 0, .int 0, .null, .null, .null, .null, .null, .null, .int 0, .null, .null, .null, .null, .null, .int 0, .int 0, .null, .null, .null, .long 0]))] H := hP
  have hD : va_D (fun q : Nat => s.heap.size ≤ q) [(q0, .inr (6, [.ref (u 0), .ref (u 2), .ref (u 19), .ref (u 21), .ref (u 48), .ref (u 55), .ref (u 57)])), ((u 0), .inr (2, [.ref (u 1), .int 0])), ((u 1), .inl (cA 0, 18, .inl (fun _ => 0))), ((u 2), .inl (cA 4, 8, .inr (.inr (.inr (.inr (va_up (va_up (va_up (va_up (va_up (va_up (va_up (va_up (fun _ => none) 0 (some (u 3))) 1 (some (u 5))) 2 (some (u 7))) 3 (some (u 9))) 4 (some (u 11))) 5 (some (u 13))) 6 (some (u 15))) 7 (some (u 17)))))))), ((u 3), .inr (0, [.ref (u 4), .int 0, .int 0, .int 0])), ((u 4), .inl (cA 0, 4, .inl (fun _ => 0))), ((u 5), .inr (0, [.ref (u 6), .int 0, .int 0, .int 0])), ((u 6), .inl (cA 0, 4, .inl (fun _ => 0))), ((u 7), .inr (0, [.ref (u 8), .int 0, .int 0, .int 0])), ((u 8), .inl (cA 0, 4, .inl (fun _ => 0))), ((u 9), .inr (0, [.ref (u 10), .int 0, .int 0, .int 0])), ((u 10), .inl (cA 0, 4, .inl (fun _ => 0))), ((u 11), .inr (0, [.ref (u 12), .int 0, .int 0, .int 0])), ((u 12), .inl (cA 0, 4, .inl (fun _ => 0))), ((u 13), .inr (0, [.ref (u 14), .int 0, .int 0, .int 0])), ((u 14), .inl (cA 0, 4, .inl (fun _ => 0))), ((u 15), .inr (0, [.ref (u 16), .int 0, .int 0, .int 0])), ((u 16), .inl (cA 0, 4, .inl (fun _ => 0))), ((u 17), .inr (0, [.ref (u 18), .int 0, .int 0, .int 0])), ((u 18), .inl (cA 0, 4, .inl (fun _ => 0))), ((u 19), .inr (0, [.ref (u 20), .int 0, .int 0, .int 0])), ((u 20), .inl (cA 0, 4, .inl (fun _ => 0))), ((u 21), .inr (4, [.ref (u 22), .ref (u 23), .int 0, .int 0, .int 0, .int 0])), ((u 22), .inl (cA 0, 12, .inl (fun _ => 0))), ((u 23), .inl (cA 4, 12, .inr (.inr (.inr (.inr (va_up (va_up (va_up (va_up (va_up (va_up (va_up (va_up (va_up (va_up (va_up (va_up (fun _ => none) 0 (some (u 24))) 1 (some (u 26))) 2 (some (u 28))) 3 (some (u 30))) 4 (some (u 32))) 5 (some (u 34))) 6 (some (u 36))) 7 (some (u 38))) 8 (some (u 40))) 9 (some (u 42))) 10 (some (u 44))) 11 (some (u 46)))))))), ((u 24), .inr (0, [.ref (u 25), .int 0, .int 0, .int 0])), ((u 25), .inl (cA 0, 4, .inl (fun _ => 0))), ((u 26), .inr (0, [.ref (u 27), .int 0, .int 0, .int 0])), ((u 27), .inl (cA 0, 4, .inl (fun _ => 0))), ((u 28), .inr (0, [.ref (u 29), .int 0, .int 0, .int 0])), ((u 29), .inl (cA 0, 4, .inl (fun _ => 0))), ((u 30), .inr (0, [.ref (u 31), .int 0, .int 0, .int 0])), ((u 31), .inl (cA 0, 4, .inl (fun _ => 0))), ((u 32), .inr (0, [.ref (u 33), .int 0, .int 0, .int 0])), ((u 33), .inl (cA 0, 4, .inl (fun _ => 0))), ((u 34), .inr (0, [.ref (u 35), .int 0, .int 0, .int 0])), ((u 35), .inl (cA 0, 4, .inl (fun _ => 0))), ((u 36), .inr (0, [.ref (u 37), .int 0, .int 0, .int 0])), ((u 37), .inl (cA 0, 4, .inl (fun _ => 0))), ((u 38), .inr (0, [.ref (u 39), .int 0, .int 0, .int 0])), ((u 39), .inl (cA 0, 4, .inl (fun _ => 0))), ((u 40), .inr (0, [.ref (u 41), .int 0, .int 0, .int 0])), ((u 41), .inl (cA 0, 4, .inl (fun _ => 0))), ((u 42), .inr (0, [.ref (u 43), .int 0, .int 0, .int 0])), ((u 43), .inl (cA 0, 4, .inl (fun _ => 0))), ((u 44), .inr (0, [.ref (u 45), .int 0, .int 0, .int 0])), ((u 45), .inl (cA 0, 4, .inl (fun _ => 0))), ((u 46), .inr (0, [.ref (u 47), .int 0, .int 0, .int 0])), ((u 47), .inl (cA 0, 4, .inl (fun _ => 0))), ((u 48), .inr (3, [.ref (u 49), .ref (u 50), .ref (u 51), .ref (u 52), .ref (u 53), .ref (u 54), .int 0, .int 0])), ((u 49), .inl (cA 0, 56, .inl (fun _ => 0))), ((u 50), .inl (cA 0, 56, .inl (fun _ => 0))), ((u 51), .inl (cA 0, 56, .inl (fun _ => 0))), ((u 52), .inl (cA 0, 56, .inl (fun _ => 0))), ((u 53), .inl (cA 3, 168, .inr (.inl (fun _ => 0)))), ((u 54), .inl (cA 1, 160, .inl (fun _ => 0))), ((u 55), .inr (5, [.ref (u 56), .int 0])), ((u 56), .inl (cA 0, 5, .inl (fun _ => 0))), ((u 57), .inr (1, [.ref (u 55), .ref (u 58), .ref (u 59), .int 0, .int 0, .int 0])), ((u 58), .inl (cA 0, 5, .inl (fun _ => 0))), ((u 59), .inl (cA 0, 5, .inl (fun _ => 0))), (q1, .inr (7, [.null, .null, .null, .null, .null, .int 0, .null, .int 0, .null, .null, .null, .int 0, .int 0, .int 0, .int 0, .null, .null, .null, .null, .null, .null, .int 0, .null, .null, .null, .null, .null, .int 0, .int 0, .null, .null, .null, .long 0]))] := hD
  refine W.widen (k := 62) (n := 849) (Nat.le_of_ble_eq_true rfl) (Nat.le_of_ble_eq_true rfl) ?_
  refine lv_dup hx hb dL_law_11 rfl ?_
  have hPc := hP.sub (ws' := [(q1, .inr (7, [.null, .null, .null, .null, .null, .int 0, .null, .int 0, .null, .null, .null, .int 0, .int 0, .int 0, .int 0, .null, .null, .null, .null, .null, .null, .int 0, .null, .null, .null, .null, .null, .int 0, .int 0, .null, .null, .null, .long 0]))]) [61] rfl
  have hDc := hD.sub (ws' := [(q1, .inr (7, [.null, .null, .null, .null, .null, .int 0, .null, .int 0, .null, .null, .null, .int 0, .int 0, .int 0, .int 0, .null, .null, .null, .null, .null, .null, .int 0, .null, .null, .null, .null, .null, .int 0, .int 0, .null, .null, .null, .long 0]))]) [61] (by decide) rfl
  have hFc := va_free (wc := [(q1, .inr (7, [.null, .null, .null, .null, .null, .int 0, .null, .int 0, .null, .null, .null, .int 0, .int 0, .int 0, .int 0, .null, .null, .null, .null, .null, .null, .int 0, .null, .null, .null, .null, .null, .int 0, .int 0, .null, .null, .null, .long 0]))]) hD hS hA [61] rfl
  refine va_callv (va_runI (As := []) (rest := [.ref q1]) ⟨hx, hb, hml, hown, hts⟩ (c_X8_init l (dC, dI) cA q1 H.size) (cwI 0 hts (f_good wc_X8_init) rfl rfl rfl (hts _ wn_X8) (hts _ wm_L_12) (hts _ wi_X8_init) rfl hdi_X8 ⟨Nat.le_of_ble_eq_true rfl, Nat.le_of_ble_eq_true rfl⟩) ⟨cP_blind, fun U hU hW => ⟨rfl, by rw [hU], by rw [hU]; exact hPc, hkC.go hW, hDc.weaken (fun _ _ _ _ => trivial)⟩⟩ rfl rfl hl.1 rfl (lv_room (Nat.le_of_ble_eq_true rfl)) dL_law_12 ⟨Nat.le_of_ble_eq_true rfl, Nat.le_of_ble_eq_true rfl⟩) hS (fun q _ h => hFc q h) hFc (fun v t H1 locs ht hvm hw hB hz1 hk1 hS => ?_)
  obtain ⟨hP1, hD1⟩ := hB
  rw [ht] at hP1
  obtain ⟨hP, hD⟩ := va_join (wr := [(q0, .inr (6, [.ref (u 0), .ref (u 2), .ref (u 19), .ref (u 21), .ref (u 48), .ref (u 55), .ref (u 57)])), ((u 0), .inr (2, [.ref (u 1), .int 0])), ((u 1), .inl (cA 0, 18, .inl (fun _ => 0))), ((u 2), .inl (cA 4, 8, .inr (.inr (.inr (.inr (va_up (va_up (va_up (va_up (va_up (va_up (va_up (va_up (fun _ => none) 0 (some (u 3))) 1 (some (u 5))) 2 (some (u 7))) 3 (some (u 9))) 4 (some (u 11))) 5 (some (u 13))) 6 (some (u 15))) 7 (some (u 17)))))))), ((u 3), .inr (0, [.ref (u 4), .int 0, .int 0, .int 0])), ((u 4), .inl (cA 0, 4, .inl (fun _ => 0))), ((u 5), .inr (0, [.ref (u 6), .int 0, .int 0, .int 0])), ((u 6), .inl (cA 0, 4, .inl (fun _ => 0))), ((u 7), .inr (0, [.ref (u 8), .int 0, .int 0, .int 0])), ((u 8), .inl (cA 0, 4, .inl (fun _ => 0))), ((u 9), .inr (0, [.ref (u 10), .int 0, .int 0, .int 0])), ((u 10), .inl (cA 0, 4, .inl (fun _ => 0))), ((u 11), .inr (0, [.ref (u 12), .int 0, .int 0, .int 0])), ((u 12), .inl (cA 0, 4, .inl (fun _ => 0))), ((u 13), .inr (0, [.ref (u 14), .int 0, .int 0, .int 0])), ((u 14), .inl (cA 0, 4, .inl (fun _ => 0))), ((u 15), .inr (0, [.ref (u 16), .int 0, .int 0, .int 0])), ((u 16), .inl (cA 0, 4, .inl (fun _ => 0))), ((u 17), .inr (0, [.ref (u 18), .int 0, .int 0, .int 0])), ((u 18), .inl (cA 0, 4, .inl (fun _ => 0))), ((u 19), .inr (0, [.ref (u 20), .int 0, .int 0, .int 0])), ((u 20), .inl (cA 0, 4, .inl (fun _ => 0))), ((u 21), .inr (4, [.ref (u 22), .ref (u 23), .int 0, .int 0, .int 0, .int 0])), ((u 22), .inl (cA 0, 12, .inl (fun _ => 0))), ((u 23), .inl (cA 4, 12, .inr (.inr (.inr (.inr (va_up (va_up (va_up (va_up (va_up (va_up (va_up (va_up (va_up (va_up (va_up (va_up (fun _ => none) 0 (some (u 24))) 1 (some (u 26))) 2 (some (u 28))) 3 (some (u 30))) 4 (some (u 32))) 5 (some (u 34))) 6 (some (u 36))) 7 (some (u 38))) 8 (some (u 40))) 9 (some (u 42))) 10 (some (u 44))) 11 (some (u 46)))))))), ((u 24), .inr (0, [.ref (u 25), .int 0, .int 0, .int 0])), ((u 25), .inl (cA 0, 4, .inl (fun _ => 0))), ((u 26), .inr (0, [.ref (u 27), .int 0, .int 0, .int 0])), ((u 27), .inl (cA 0, 4, .inl (fun _ => 0))), ((u 28), .inr (0, [.ref (u 29), .int 0, .int 0, .int 0])), ((u 29), .inl (cA 0, 4, .inl (fun _ => 0))), ((u 30), .inr (0, [.ref (u 31), .int 0, .int 0, .int 0])), ((u 31), .inl (cA 0, 4, .inl (fun _ => 0))), ((u 32), .inr (0, [.ref (u 33), .int 0, .int 0, .int 0])), ((u 33), .inl (cA 0, 4, .inl (fun _ => 0))), ((u 34), .inr (0, [.ref (u 35), .int 0, .int 0, .int 0])), ((u 35), .inl (cA 0, 4, .inl (fun _ => 0))), ((u 36), .inr (0, [.ref (u 37), .int 0, .int 0, .int 0])), ((u 37), .inl (cA 0, 4, .inl (fun _ => 0))), ((u 38), .inr (0, [.ref (u 39), .int 0, .int 0, .int 0])), ((u 39), .inl (cA 0, 4, .inl (fun _ => 0))), ((u 40), .inr (0, [.ref (u 41), .int 0, .int 0, .int 0])), ((u 41), .inl (cA 0, 4, .inl (fun _ => 0))), ((u 42), .inr (0, [.ref (u 43), .int 0, .int 0, .int 0])), ((u 43), .inl (cA 0, 4, .inl (fun _ => 0))), ((u 44), .inr (0, [.ref (u 45), .int 0, .int 0, .int 0])), ((u 45), .inl (cA 0, 4, .inl (fun _ => 0))), ((u 46), .inr (0, [.ref (u 47), .int 0, .int 0, .int 0])), ((u 47), .inl (cA 0, 4, .inl (fun _ => 0))), ((u 48), .inr (3, [.ref (u 49), .ref (u 50), .ref (u 51), .ref (u 52), .ref (u 53), .ref (u 54), .int 0, .int 0])), ((u 49), .inl (cA 0, 56, .inl (fun _ => 0))), ((u 50), .inl (cA 0, 56, .inl (fun _ => 0))), ((u 51), .inl (cA 0, 56, .inl (fun _ => 0))), ((u 52), .inl (cA 0, 56, .inl (fun _ => 0))), ((u 53), .inl (cA 3, 168, .inr (.inl (fun _ => 0)))), ((u 54), .inl (cA 1, 160, .inl (fun _ => 0))), ((u 55), .inr (5, [.ref (u 56), .int 0])), ((u 56), .inl (cA 0, 5, .inl (fun _ => 0))), ((u 57), .inr (1, [.ref (u 55), .ref (u 58), .ref (u 59), .int 0, .int 0, .int 0])), ((u 58), .inl (cA 0, 5, .inl (fun _ => 0))), ((u 59), .inl (cA 0, 5, .inl (fun _ => 0)))]) (w1 := [(q1, .inr (7, [.ref (v 0), .ref (v 1), .ref (v 2), .ref (v 3), .ref (v 4), .int 0, .ref (v 5), .int 0, .ref (v 6), .ref (v 7), .ref (v 8), .int 0, .int 0, .int 0, .int 0, .ref (v 9), .ref (v 10), .ref (v 11), .ref (v 12), .ref (v 13), .ref (v 14), .int 0, .ref (v 15), .ref (v 16), .ref (v 17), .ref (v 18), .ref (v 19), .int 0, .int 0, .ref (v 20), .ref (v 21), .ref (v 22), .long 0])), ((v 0), .inl (cA 0, 8, .inl (fun _ => 0))), ((v 1), .inl (cA 0, 32, .inl (fun _ => 0))), ((v 2), .inl (cA 1, 8, .inl (fun _ => 0))), ((v 3), .inl (cA 0, 8, .inl (fun _ => 0))), ((v 4), .inl (cA 0, 8, .inl (fun _ => 0))), ((v 5), .inl (cA 2, 18, .inl (fun _ => 0))), ((v 6), .inl (cA 0, 12, .inl (fun _ => 0))), ((v 7), .inl (cA 0, 12, .inl (fun _ => 0))), ((v 8), .inl (cA 0, 48, .inl (fun _ => 0))), ((v 9), .inl (cA 0, 56, .inl (fun _ => 0))), ((v 10), .inl (cA 0, 56, .inl (fun _ => 0))), ((v 11), .inl (cA 0, 56, .inl (fun _ => 0))), ((v 12), .inl (cA 0, 56, .inl (fun _ => 0))), ((v 13), .inl (cA 0, 56, .inl (fun _ => 0))), ((v 14), .inl (cA 1, 8960, .inl (fun _ => 0))), ((v 15), .inl (cA 0, 5, .inl (fun _ => 0))), ((v 16), .inl (cA 1, 169, .inl (fun _ => 0))), ((v 17), .inl (cA 1, 169, .inl (fun _ => 0))), ((v 18), .inl (cA 1, 169, .inl (fun _ => 0))), ((v 19), .inl (cA 1, 169, .inl (fun _ => 0))), ((v 20), .inl (cA 0, 4, .inl (fun _ => 0))), ((v 21), .inl (cA 0, 5, .inl (fun _ => 0))), ((v 22), .inl (cA 0, 5, .inl (fun _ => 0)))]) hP hD [61] [0, 1, 2, 3, 4, 5, 6, 7, 8, 9, 10, 11, 12, 13, 14, 15, 16, 17, 18, 19, 20, 21, 22, 23, 24, 25, 26, 27, 28, 29, 30, 31, 32, 33, 34, 35, 36, 37, 38, 39, 40, 41, 42, 43, 44, 45, 46, 47, 48, 49, 50, 51, 52, 53, 54, 55, 56, 57, 58, 59, 60] rfl rfl (by decide) (by decide) hk1 hFc hP1 hD1
  generalize H1 = H at hP hS ⊢
  have hP : va_P (dC, dI) f_cl [(q0, .inr (6, [.ref (u 0), .ref (u 2), .ref (u 19), .ref (u 21), .ref (u 48), .ref (u 55), .ref (u 57)])), ((u 0), .inr (2, [.ref (u 1), .int 0])), ((u 1), .inl (cA 0, 18, .inl (fun _ => 0))), ((u 2), .inl (cA 4, 8, .inr (.inr (.inr (.inr (va_up (va_up (va_up (va_up (va_up (va_up (va_up (va_up (fun _ => none) 0 (some (u 3))) 1 (some (u 5))) 2 (some (u 7))) 3 (some (u 9))) 4 (some (u 11))) 5 (some (u 13))) 6 (some (u 15))) 7 (some (u 17)))))))), ((u 3), .inr (0, [.ref (u 4), .int 0, .int 0, .int 0])), ((u 4), .inl (cA 0, 4, .inl (fun _ => 0))), ((u 5), .inr (0, [.ref (u 6), .int 0, .int 0, .int 0])), ((u 6), .inl (cA 0, 4, .inl (fun _ => 0))), ((u 7), .inr (0, [.ref (u 8), .int 0, .int 0, .int 0])), ((u 8), .inl (cA 0, 4, .inl (fun _ => 0))), ((u 9), .inr (0, [.ref (u 10), .int 0, .int 0, .int 0])), ((u 10), .inl (cA 0, 4, .inl (fun _ => 0))), ((u 11), .inr (0, [.ref (u 12), .int 0, .int 0, .int 0])), ((u 12), .inl (cA 0, 4, .inl (fun _ => 0))), ((u 13), .inr (0, [.ref (u 14), .int 0, .int 0, .int 0])), ((u 14), .inl (cA 0, 4, .inl (fun _ => 0))), ((u 15), .inr (0, [.ref (u 16), .int 0, .int 0, .int 0])), ((u 16), .inl (cA 0, 4, .inl (fun _ => 0))), ((u 17), .inr (0, [.ref (u 18), .int 0, .int 0, .int 0])), ((u 18), .inl (cA 0, 4, .inl (fun _ => 0))), ((u 19), .inr (0, [.ref (u 20), .int 0, .int 0, .int 0])), ((u 20), .inl (cA 0, 4, .inl (fun _ => 0))), ((u 21), .inr (4, [.ref (u 22), .ref (u 23), .int 0, .int 0, .int 0, .int 0])), ((u 22), .inl (cA 0, 12, .inl (fun _ => 0))), ((u 23), .inl (cA 4, 12, .inr (.inr (.inr (.inr (va_up (va_up (va_up (va_up (va_up (va_up (va_up (va_up (va_up (va_up (va_up (va_up (fun _ => none) 0 (some (u 24))) 1 (some (u 26))) 2 (some (u 28))) 3 (some (u 30))) 4 (some (u 32))) 5 (some (u 34))) 6 (some (u 36))) 7 (some (u 38))) 8 (some (u 40))) 9 (some (u 42))) 10 (some (u 44))) 11 (some (u 46)))))))), ((u 24), .inr (0, [.ref (u 25), .int 0, .int 0, .int 0])), ((u 25), .inl (cA 0, 4, .inl (fun _ => 0))), ((u 26), .inr (0, [.ref (u 27), .int 0, .int 0, .int 0])), ((u 27), .inl (cA 0, 4, .inl (fun _ => 0))), ((u 28), .inr (0, [.ref (u 29), .int 0, .int 0, .int 0])), ((u 29), .inl (cA 0, 4, .inl (fun _ => 0))), ((u 30), .inr (0, [.ref (u 31), .int 0, .int 0, .int 0])), ((u 31), .inl (cA 0, 4, .inl (fun _ => 0))), ((u 32), .inr (0, [.ref (u 33), .int 0, .int 0, .int 0])), ((u 33), .inl (cA 0, 4, .inl (fun _ => 0))), ((u 34), .inr (0, [.ref (u 35), .int 0, .int 0, .int 0])), ((u 35), .inl (cA 0, 4, .inl (fun _ => 0))), ((u 36), .inr (0, [.ref (u 37), .int 0, .int 0, .int 0])), ((u 37), .inl (cA 0, 4, .inl (fun _ => 0))), ((u 38), .inr (0, [.ref (u 39), .int 0, .int 0, .int 0])), ((u 39), .inl (cA 0, 4, .inl (fun _ => 0))), ((u 40), .inr (0, [.ref (u 41), .int 0, .int 0, .int 0])), ((u 41), .inl (cA 0, 4, .inl (fun _ => 0))), ((u 42), .inr (0, [.ref (u 43), .int 0, .int 0, .int 0])), ((u 43), .inl (cA 0, 4, .inl (fun _ => 0))), ((u 44), .inr (0, [.ref (u 45), .int 0, .int 0, .int 0])), ((u 45), .inl (cA 0, 4, .inl (fun _ => 0))), ((u 46), .inr (0, [.ref (u 47), .int 0, .int 0, .int 0])), ((u 47), .inl (cA 0, 4, .inl (fun _ => 0))), ((u 48), .inr (3, [.ref (u 49), .ref (u 50), .ref (u 51), .ref (u 52), .ref (u 53), .ref (u 54), .int 0, .int 0])), ((u 49), .inl (cA 0, 56, .inl (fun _ => 0))), ((u 50), .inl (cA 0, 56, .inl (fun _ => 0))), ((u 51), .inl (cA 0, 56, .inl (fun _ => 0))), ((u 52), .inl (cA 0, 56, .inl (fun _ => 0))), ((u 53), .inl (cA 3, 168, .inr (.inl (fun _ => 0)))), ((u 54), .inl (cA 1, 160, .inl (fun _ => 0))), ((u 55), .inr (5, [.ref (u 56), .int 0])), ((u 56), .inl (cA 0, 5, .inl (fun _ => 0))), ((u 57), .inr (1, [.ref (u 55), .ref (u 58), .ref (u 59), .int 0, .int 0, .int 0])), ((u 58), .inl (cA 0, 5, .inl (fun _ => 0))), ((u 59), .inl (cA 0, 5, .inl (fun _ => 0))), (q1, .inr (7, [.ref (v 0), .ref (v 1), .ref (v 2), .ref (v 3), .ref (v 4), .int 0, .ref (v 5), .int 0, .ref (v 6), .ref (v 7), .ref (v 8), .int 0, .int 0, .int 0, .int 0, .ref (v 9), .ref (v 10), .ref (v 11), .ref (v 12), .ref (v 13), .ref (v 14), .int 0, .ref (v 15), .ref (v 16), .ref (v 17), .ref (v 18), .ref (v 19), .int 0, .int 0, .ref (v 20), .ref (v 21), .ref (v 22), .long 0])), ((v 0), .inl (cA 0, 8, .inl (fun _ => 0))), ((v 1), .inl (cA 0, 32, .inl (fun _ => 0))), ((v 2), .inl (cA 1, 8, .inl (fun _ => 0))), ((v 3), .inl (cA 0, 8, .inl (fun _ => 0))), ((v 4), .inl (cA 0, 8, .inl (fun _ => 0))), ((v 5), .inl (cA 2, 18, .inl (fun _ => 0))), ((v 6), .inl (cA 0, 12, .inl (fun _ => 0))), ((v 7), .inl (cA 0, 12, .inl (fun _ => 0))), ((v 8), .inl (cA 0, 48, .inl (fun _ => 0))), ((v 9), .inl (cA 0, 56, .inl (fun _ => 0))), ((v 10), .inl (cA 0, 56, .inl (fun _ => 0))), ((v 11), .inl (cA 0, 56, .inl (fun _ => 0))), ((v 12), .inl (cA 0, 56, .inl (fun _ => 0))), ((v 13), .inl (cA 0, 56, .inl (fun _ => 0))), ((v 14), .inl (cA 1, 8960, .inl (fun _ => 0))), ((v 15), .inl (cA 0, 5, .inl (fun _ => 0))), ((v 16), .inl (cA 1, 169, .inl (fun _ => 0))), ((v 17), .inl (cA 1, 169, .inl (fun _ => 0))), ((v 18), .inl (cA 1, 169, .inl (fun _ => 0))), ((v 19), .inl (cA 1, 169, .inl (fun _ => 0))), ((v 20), .inl (cA 0, 4, .inl (fun _ => 0))), ((v 21), .inl (cA 0, 5, .inl (fun _ => 0))), ((v 22), .inl (cA 0, 5, .inl (fun _ => 0)))] H := hP
  have hD : va_D (fun q : Nat => s.heap.size ≤ q) [(q0, .inr (6, [.ref (u 0), .ref (u 2), .ref (u 19), .ref (u 21), .ref (u 48), .ref (u 55), .ref (u 57)])), ((u 0), .inr (2, [.ref (u 1), .int 0])), ((u 1), .inl (cA 0, 18, .inl (fun _ => 0))), ((u 2), .inl (cA 4, 8, .inr (.inr (.inr (.inr (va_up (va_up (va_up (va_up (va_up (va_up (va_up (va_up (fun _ => none) 0 (some (u 3))) 1 (some (u 5))) 2 (some (u 7))) 3 (some (u 9))) 4 (some (u 11))) 5 (some (u 13))) 6 (some (u 15))) 7 (some (u 17)))))))), ((u 3), .inr (0, [.ref (u 4), .int 0, .int 0, .int 0])), ((u 4), .inl (cA 0, 4, .inl (fun _ => 0))), ((u 5), .inr (0, [.ref (u 6), .int 0, .int 0, .int 0])), ((u 6), .inl (cA 0, 4, .inl (fun _ => 0))), ((u 7), .inr (0, [.ref (u 8), .int 0, .int 0, .int 0])), ((u 8), .inl (cA 0, 4, .inl (fun _ => 0))), ((u 9), .inr (0, [.ref (u 10), .int 0, .int 0, .int 0])), ((u 10), .inl (cA 0, 4, .inl (fun _ => 0))), ((u 11), .inr (0, [.ref (u 12), .int 0, .int 0, .int 0])), ((u 12), .inl (cA 0, 4, .inl (fun _ => 0))), ((u 13), .inr (0, [.ref (u 14), .int 0, .int 0, .int 0])), ((u 14), .inl (cA 0, 4, .inl (fun _ => 0))), ((u 15), .inr (0, [.ref (u 16), .int 0, .int 0, .int 0])), ((u 16), .inl (cA 0, 4, .inl (fun _ => 0))), ((u 17), .inr (0, [.ref (u 18), .int 0, .int 0, .int 0])), ((u 18), .inl (cA 0, 4, .inl (fun _ => 0))), ((u 19), .inr (0, [.ref (u 20), .int 0, .int 0, .int 0])), ((u 20), .inl (cA 0, 4, .inl (fun _ => 0))), ((u 21), .inr (4, [.ref (u 22), .ref (u 23), .int 0, .int 0, .int 0, .int 0])), ((u 22), .inl (cA 0, 12, .inl (fun _ => 0))), ((u 23), .inl (cA 4, 12, .inr (.inr (.inr (.inr (va_up (va_up (va_up (va_up (va_up (va_up (va_up (va_up (va_up (va_up (va_up (va_up (fun _ => none) 0 (some (u 24))) 1 (some (u 26))) 2 (some (u 28))) 3 (some (u 30))) 4 (some (u 32))) 5 (some (u 34))) 6 (some (u 36))) 7 (some (u 38))) 8 (some (u 40))) 9 (some (u 42))) 10 (some (u 44))) 11 (some (u 46)))))))), ((u 24), .inr (0, [.ref (u 25), .int 0, .int 0, .int 0])), ((u 25), .inl (cA 0, 4, .inl (fun _ => 0))), ((u 26), .inr (0, [.ref (u 27), .int 0, .int 0, .int 0])), ((u 27), .inl (cA 0, 4, .inl (fun _ => 0))), ((u 28), .inr (0, [.ref (u 29), .int 0, .int 0, .int 0])), ((u 29), .inl (cA 0, 4, .inl (fun _ => 0))), ((u 30), .inr (0, [.ref (u 31), .int 0, .int 0, .int 0])), ((u 31), .inl (cA 0, 4, .inl (fun _ => 0))), ((u 32), .inr (0, [.ref (u 33), .int 0, .int 0, .int 0])), ((u 33), .inl (cA 0, 4, .inl (fun _ => 0))), ((u 34), .inr (0, [.ref (u 35), .int 0, .int 0, .int 0])), ((u 35), .inl (cA 0, 4, .inl (fun _ => 0))), ((u 36), .inr (0, [.ref (u 37), .int 0, .int 0, .int 0])), ((u 37), .inl (cA 0, 4, .inl (fun _ => 0))), ((u 38), .inr (0, [.ref (u 39), .int 0, .int 0, .int 0])), ((u 39), .inl (cA 0, 4, .inl (fun _ => 0))), ((u 40), .inr (0, [.ref (u 41), .int 0, .int 0, .int 0])), ((u 41), .inl (cA 0, 4, .inl (fun _ => 0))), ((u 42), .inr (0, [.ref (u 43), .int 0, .int 0, .int 0])), ((u 43), .inl (cA 0, 4, .inl (fun _ => 0))), ((u 44), .inr (0, [.ref (u 45), .int 0, .int 0, .int 0])), ((u 45), .inl (cA 0, 4, .inl (fun _ => 0))), ((u 46), .inr (0, [.ref (u 47), .int 0, .int 0, .int 0])), ((u 47), .inl (cA 0, 4, .inl (fun _ => 0))), ((u 48), .inr (3, [.ref (u 49), .ref (u 50), .ref (u 51), .ref (u 52), .ref (u 53), .ref (u 54), .int 0, .int 0])), ((u 49), .inl (cA 0, 56, .inl (fun _ => 0))), ((u 50), .inl (cA 0, 56, .inl (fun _ => 0))), ((u 51), .inl (cA 0, 56, .inl (fun _ => 0))), ((u 52), .inl (cA 0, 56, .inl (fun _ => 0))), ((u 53), .inl (cA 3, 168, .inr (.inl (fun _ => 0)))), ((u 54), .inl (cA 1, 160, .inl (fun _ => 0))), ((u 55), .inr (5, [.ref (u 56), .int 0])), ((u 56), .inl (cA 0, 5, .inl (fun _ => 0))), ((u 57), .inr (1, [.ref (u 55), .ref (u 58), .ref (u 59), .int 0, .int 0, .int 0])), ((u 58), .inl (cA 0, 5, .inl (fun _ => 0))), ((u 59), .inl (cA 0, 5, .inl (fun _ => 0))), (q1, .inr (7, [.ref (v 0), .ref (v 1), .ref (v 2), .ref (v 3), .ref (v 4), .int 0, .ref (v 5), .int 0, .ref (v 6), .ref (v 7), .ref (v 8), .int 0, .int 0, .int 0, .int 0, .ref (v 9), .ref (v 10), .ref (v 11), .ref (v 12), .ref (v 13), .ref (v 14), .int 0, .ref (v 15), .ref (v 16), .ref (v 17), .ref (v 18), .ref (v 19), .int 0, .int 0, .ref (v 20), .ref (v 21), .ref (v 22), .long 0])), ((v 0), .inl (cA 0, 8, .inl (fun _ => 0))), ((v 1), .inl (cA 0, 32, .inl (fun _ => 0))), ((v 2), .inl (cA 1, 8, .inl (fun _ => 0))), ((v 3), .inl (cA 0, 8, .inl (fun _ => 0))), ((v 4), .inl (cA 0, 8, .inl (fun _ => 0))), ((v 5), .inl (cA 2, 18, .inl (fun _ => 0))), ((v 6), .inl (cA 0, 12, .inl (fun _ => 0))), ((v 7), .inl (cA 0, 12, .inl (fun _ => 0))), ((v 8), .inl (cA 0, 48, .inl (fun _ => 0))), ((v 9), .inl (cA 0, 56, .inl (fun _ => 0))), ((v 10), .inl (cA 0, 56, .inl (fun _ => 0))), ((v 11), .inl (cA 0, 56, .inl (fun _ => 0))), ((v 12), .inl (cA 0, 56, .inl (fun _ => 0))), ((v 13), .inl (cA 0, 56, .inl (fun _ => 0))), ((v 14), .inl (cA 1, 8960, .inl (fun _ => 0))), ((v 15), .inl (cA 0, 5, .inl (fun _ => 0))), ((v 16), .inl (cA 1, 169, .inl (fun _ => 0))), ((v 17), .inl (cA 1, 169, .inl (fun _ => 0))), ((v 18), .inl (cA 1, 169, .inl (fun _ => 0))), ((v 19), .inl (cA 1, 169, .inl (fun _ => 0))), ((v 20), .inl (cA 0, 4, .inl (fun _ => 0))), ((v 21), .inl (cA 0, 5, .inl (fun _ => 0))), ((v 22), .inl (cA 0, 5, .inl (fun _ => 0)))] := hD
  refine W.widen (k := 85) (n := 10938) (Nat.le_of_ble_eq_true rfl) (Nat.le_of_ble_eq_true rfl) ?_
  refine lv_astore_n (lv' := [(2, .ref q1), (1, .ref q0), (0, .ref b)]) hx hb dL_law_15 rfl hl (by decide) rfl (fun ls hl => ?_)
  refine lv_iconst (v := 0) hx hb dL_law_16 (by decide) ?_
  refine lv_istore_n (lv' := [(3, .int 0), (2, .ref q1), (1, .ref q0), (0, .ref b)]) hx hb dL_law_17 rfl hl (by decide) rfl (fun ls hl => ?_)
  refine W.widen (k := 600000) (n := 7302250) (Nat.le_of_ble_eq_true rfl) (Nat.le_of_ble_eq_true rfl) ?_
  refine va_forget (fun q hq => hS.2.2 q hq) ?_
  exact law_fin hL C0 INV N hO hI0 hK hP hD hS (lv_sub hl [3, 2, 1, 0] rfl)
