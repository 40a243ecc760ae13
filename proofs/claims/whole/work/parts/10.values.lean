def g_X0_empty (N : Nat) (k : Nat) (σ : fS) : Option fS :=
  Lt (sI σ k 1 (0 : Int32)) fun σ2 =>
    Lt (sI σ2 k 2 (0 : Int32)) fun σ7 =>
      Lt (sI σ7 k 3 (0 : Int32)) fun σ12 =>
        some σ12
def g_X0_add (N : Nat) (k : Nat) (a1 : Int32) (σ : fS) : Option fS :=
  if (σ.1 k 1) < 0 then (
    some σ
  ) else (
    if (4 : Int32) ≤ (σ.1 k 1) then (
      some σ
    ) else (
      Gd (fin (σ.1 k 1) 4) (
      Lt (sI σ (k + 1) ((σ.1 k 1)).toNatClampNeg a1) fun σ24 =>
        Lt (sI σ24 k 1 ((σ24.1 k 1) + (1 : Int32))) fun σ32 =>
          some σ32
      )
    )
  )
def g_X0_kindAt (N : Nat) (k : Nat) (a1 : Int32) (σ : fS) : Option (Int32 × fS) :=
  if a1 < 0 then (
    some ((0 : Int32), σ)
  ) else (
    if (σ.1 k 1) ≤ a1 then (
      some ((0 : Int32), σ)
    ) else (
      if (4 : Int32) ≤ a1 then (
        some ((0 : Int32), σ)
      ) else (
        Gd (fin a1 4) (
          some ((σ.1 (k + 1) (a1).toNatClampNeg), σ)
        )
      )
    )
  )
def lp_X0_addTimes_2 (N : Nat) (q0 : Nat) (q1 : Nat) (p2 : Int32) : Nat → Int32 → fS → Option fS
  | 0, _, _ => none
  | n2 + 1, x3, σ =>
    if (σ.1 q1 1) ≤ x3 then (
      some σ
    ) else (
      Bd (g_X0_kindAt N q1 x3 σ) fun r13 σ13 =>
        Bv (g_X0_add N q0 (r13 ^^^ p2) σ13) fun σ18 =>
          lp_X0_addTimes_2 N q0 q1 p2 n2 (x3 + (1 : Int32)) σ18
    )
def g_X0_addTimes (N : Nat) (k : Nat) (k1 : Nat) (a2 : Int32) (σ : fS) : Option fS :=
  Bv (lp_X0_addTimes_2 N k k1 a2 N (0 : Int32) σ) fun σl2 =>
    some σl2
def g_X0_change (N : Nat) (k : Nat) (a1 : Int32) (a2 : Int32) (σ : fS) : Option fS :=
  if a1 < 0 then (
    some σ
  ) else (
    if (σ.1 k 1) ≤ a1 then (
      some σ
    ) else (
      if (4 : Int32) ≤ a1 then (
        some σ
      ) else (
        Gd (fin a1 4) (
        Lt (sI σ (k + 1) (a1).toNatClampNeg a2) fun σ23 =>
          some σ23
        )
      )
    )
  )
def lp_X0_copy_2 (N : Nat) (q0 : Nat) (q1 : Nat) : Nat → Int32 → fS → Option fS
  | 0, _, _ => none
  | n2 + 1, x2, σ =>
    if (4 : Int32) ≤ x2 then (
      some σ
    ) else (
      Gd (fin x2 4) (
        Gd (fin x2 4) (
        Lt (sI σ (q0 + 1) (x2).toNatClampNeg (σ.1 (q1 + 1) (x2).toNatClampNeg)) fun σ18 =>
          lp_X0_copy_2 N q0 q1 n2 (x2 + (1 : Int32)) σ18
        )
      )
    )
def g_X0_copy (N : Nat) (k : Nat) (k1 : Nat) (σ : fS) : Option fS :=
  Bv (lp_X0_copy_2 N k k1 N (0 : Int32) σ) fun σl2 =>
    Lt (sI σl2 k 1 (σl2.1 k1 1)) fun σ30 =>
      Lt (sI σ30 k 2 (σ30.1 k1 2)) fun σ38 =>
        Lt (sI σ38 k 3 (σ38.1 k1 3)) fun σ46 =>
          some σ46
def g_X6_start (N : Nat)  (σ : fS) : Option fS :=
  Lt (sI σ 16 1 (0 : Int32)) fun σ2 =>
    some σ2
def lp_X2_coreOf_4 (N : Nat) (p0 : Int32) : Nat → Int32 → Int32 → fS → Option (Int32 × fS)
  | 0, _, _, _ => none
  | n4 + 1, x1, x2, σ =>
    if (7 : Int32) ≤ x2 then (
      some (x1, σ)
    ) else (
      if ((p0 >>> (x2 &&& (31 : Int32))) &&& (1 : Int32)) = (1 : Int32) then (
        Gd (fin x2 7) (
          Lt (x1 * (f_B (x2).toNatClampNeg)) fun v28 =>
            lp_X2_coreOf_4 N p0 n4 v28 (x2 + (1 : Int32)) σ
        )
      ) else (
        lp_X2_coreOf_4 N p0 n4 x1 (x2 + (1 : Int32)) σ
      )
    )
def g_X2_coreOf (N : Nat) (a0 : Int32) (σ : fS) : Option (Int32 × fS) :=
  Bd (lp_X2_coreOf_4 N a0 N (1 : Int32) (0 : Int32) σ) fun o4 σl4 =>
    some (o4, σl4)
def g_X6_add (N : Nat) (a1 : Int32) (σ : fS) : Option fS :=
  if (σ.1 16 1) < 0 then (
    some σ
  ) else (
    if (5 : Int32) ≤ (σ.1 16 1) then (
      some σ
    ) else (
      Bd (g_X2_coreOf N a1 σ) fun r24 σ24 =>
        Gd (fin (σ.1 16 1) 5) (
        Lt (sI σ24 17 ((σ.1 16 1)).toNatClampNeg r24) fun σ27 =>
          Lt (sI σ27 16 1 ((σ27.1 16 1) + (1 : Int32))) fun σ35 =>
            some σ35
        )
    )
  )
def lp_X6_vanishesAtReal_6 (N : Nat) : Nat → Int32 → Int32 → Int32 → fS → Option ((Int32 × Int32) × fS)
  | 0, _, _, _, _ => none
  | n6 + 1, x1, x2, x3, σ =>
    if (σ.1 16 1) ≤ x3 then (
      some ((x1, x2), σ)
    ) else (
      if (5 : Int32) ≤ x3 then (
        some ((x1, x2), σ)
      ) else (
        Gd (fin x3 5) (
          Bd (
            if (σ.1 17 (x3).toNatClampNeg) ≤ 0 then (
              some ((0 : Int32), σ)
            ) else (
              some ((1 : Int32), σ)
            )
          ) fun o26 σj26 =>
            Lt (x1 ||| o26) fun v35 =>
              Gd (fin x3 5) (
                if 0 ≤ (σj26.1 17 (x3).toNatClampNeg) then (
                  Lt (x2 ||| (0 : Int32)) fun v52 =>
                    lp_X6_vanishesAtReal_6 N n6 v35 v52 (x3 + (1 : Int32)) σj26
                ) else (
                  Lt (x2 ||| (1 : Int32)) fun v52 =>
                    lp_X6_vanishesAtReal_6 N n6 v35 v52 (x3 + (1 : Int32)) σj26
                )
              )
        )
      )
    )
def g_X6_vanishesAtReal (N : Nat)  (σ : fS) : Option (Int32 × fS) :=
  Bd (lp_X6_vanishesAtReal_6 N N (0 : Int32) (0 : Int32) (0 : Int32) σ) fun o6 σl6 =>
    if o6.1 = 0 then (
      some ((0 : Int32), σl6)
    ) else (
      if o6.2 = 0 then (
        some ((0 : Int32), σl6)
      ) else (
        some ((1 : Int32), σl6)
      )
    )
def g_X6_turned (N : Nat) (a0 : Int32) (a1 : Int32) (σ : fS) : Option (Int32 × fS) :=
  Lt (a1 &&& (15 : Int32)) fun v4 =>
    some ((((a0 <<< (v4 &&& (31 : Int32))) ||| (a0 >>> (((16 : Int32) - v4) &&& (31 : Int32)))) &&& (65535 : Int32)), σ)
def lp_X6_vanishesAtTwo_6 (N : Nat) : Nat → Int32 → Int32 → Int32 → fS → Option (Int32 × fS)
  | 0, _, _, _, _ => none
  | n6 + 1, x1, x2, x3, σ =>
    if (σ.1 16 1) ≤ x3 then (
      some (x2, σ)
    ) else (
      if (5 : Int32) ≤ x3 then (
        some (x2, σ)
      ) else (
        Gd (fin x3 5) (
          Lt (σ.1 17 (x3).toNatClampNeg) fun v25 =>
            Lt (x1 ||| x2) fun v30 =>
              Bd (g_X6_turned N x2 ((4 : Int32) * v25) σ) fun r38 σ38 =>
                Bd (g_X6_turned N v30 v25 σ38) fun r46 σ46 =>
                  Bd (g_X6_turned N v30 ((9 : Int32) * v25) σ46) fun r57 σ57 =>
                    Lt (((x2 ||| r38) ||| r46) ||| r57) fun v61 =>
                      Bd (g_X6_turned N x1 ((4 : Int32) * v25) σ57) fun r68 σ68 =>
                        Lt (x1 ||| r68) fun v72 =>
                          lp_X6_vanishesAtTwo_6 N n6 v72 v61 (x3 + (1 : Int32)) σ68
        )
      )
    )
def g_X6_vanishesAtTwo (N : Nat)  (σ : fS) : Option (Int32 × fS) :=
  Bd (lp_X6_vanishesAtTwo_6 N N (1 : Int32) (0 : Int32) (0 : Int32) σ) fun o6 σl6 =>
    if (o6 &&& (1 : Int32)) = (1 : Int32) then (
      some ((1 : Int32), σl6)
    ) else (
      some ((0 : Int32), σl6)
    )
def lp_X6_partVanishes_38 (N : Nat) (p1 : Int32) (p2 : Int32) (p3 : Int32) : Nat → Int32 → Int32 → Int32 → fS → Option ((Int32 × Int32) × fS)
  | 0, _, _, _, _ => none
  | n38 + 1, x4, x5, x6, σ =>
    if (σ.1 16 1) ≤ x6 then (
      some ((x4, x5), σ)
    ) else (
      if (5 : Int32) ≤ x6 then (
        some ((x4, x5), σ)
      ) else (
        Gd (fin x6 5) (
          Lt (σ.1 17 (x6).toNatClampNeg) fun v60 =>
            Bd (
              if p2 = 0 then (
                Gd (nz p3) (
                  if (iR v60 p3) = 0 then (
                    some ((0 : Int32), σ)
                  ) else (
                    some ((1 : Int32), σ)
                  )
                )
              ) else (
                Gd (nz p3) (
                  if (iR v60 p3) = 0 then (
                    some ((1 : Int32), σ)
                  ) else (
                    some ((0 : Int32), σ)
                  )
                )
              )
            ) fun o63 σj63 =>
              if o63 = 0 then (
                lp_X6_partVanishes_38 N p1 p2 p3 n38 x4 x5 (x6 + (1 : Int32)) σj63
              ) else (
                if p2 = 0 then (
                  Gd (nz p3) (
                    Lt (iR (x5 * v60) p3) fun v121 =>
                      lp_X6_partVanishes_38 N p1 p2 p3 n38 (x4 + (1 : Int32)) v121 (x6 + (1 : Int32)) σj63
                  )
                ) else (
                  Gd (nz p3) (
                    Gd (nz p3) (
                      Lt (iR (x5 * (v60 / p3)) p3) fun v121 =>
                        lp_X6_partVanishes_38 N p1 p2 p3 n38 (x4 + (1 : Int32)) v121 (x6 + (1 : Int32)) σj63
                    )
                  )
                )
              )
        )
      )
    )
def g_X6_partVanishes (N : Nat) (a1 : Int32) (a2 : Int32) (σ : fS) : Option (Int32 × fS) :=
  if a1 < (2 : Int32) then (
    some ((0 : Int32), σ)
  ) else (
    if (7 : Int32) ≤ a1 then (
      some ((0 : Int32), σ)
    ) else (
      if a1 < (7 : Int32) then (
        Gd (fin a1 7) (
          Lt (f_B (a1).toNatClampNeg) fun v28 =>
            Bd (lp_X6_partVanishes_38 N a1 a2 v28 N (0 : Int32) (1 : Int32) (0 : Int32) σ) fun o38 σl38 =>
              Gd (nz v28) (
                Lt (iR (v28 - o38.2) v28) fun v135 =>
                  if (2 : Int32) < o38.1 then (
                    some ((1 : Int32), σl38)
                  ) else (
                    if o38.1 = (2 : Int32) then (
                      Gd (fin a1 7) (
                        if (((f_Sq (a1).toNatClampNeg) >>> (v135 &&& (31 : Int32))) &&& (1 : Int32)) = (1 : Int32) then (
                          some ((1 : Int32), σl38)
                        ) else (
                          some ((0 : Int32), σl38)
                        )
                      )
                    ) else (
                      some ((0 : Int32), σl38)
                    )
                  )
              )
        )
      ) else (
        some ((0 : Int32), σ)
      )
    )
  )
def lp_X6_bars_30 (N : Nat) : Nat → Int32 → Int32 → fS → Option (Int32 × fS)
  | 0, _, _, _ => none
  | n30 + 1, x1, x2, σ =>
    if (7 : Int32) ≤ x2 then (
      some (x1, σ)
    ) else (
      Bd (g_X6_partVanishes N x2 (0 : Int32) σ) fun r42 σ42 =>
        if r42 = 0 then (
          Bd (g_X6_partVanishes N x2 (1 : Int32) σ42) fun r51 σ51 =>
            if r51 = 0 then (
              Lt (x1 ||| ((1 : Int32) <<< (x2 &&& (31 : Int32)))) fun v65 =>
                lp_X6_bars_30 N n30 v65 (x2 + (1 : Int32)) σ51
            ) else (
              Lt (x1 ||| (0 : Int32)) fun v65 =>
                lp_X6_bars_30 N n30 v65 (x2 + (1 : Int32)) σ51
            )
        ) else (
          Lt (x1 ||| (0 : Int32)) fun v65 =>
            lp_X6_bars_30 N n30 v65 (x2 + (1 : Int32)) σ42
        )
    )
def g_X6_bars (N : Nat)  (σ : fS) : Option (Int32 × fS) :=
  Bd (g_X6_vanishesAtReal N σ) fun r1 σ1 =>
    Bd (
      if r1 = 0 then (
        some ((1 : Int32), σ1)
      ) else (
        some ((0 : Int32), σ1)
      )
    ) fun o4 σj4 =>
      Bd (g_X6_vanishesAtTwo N σj4) fun r15 σ15 =>
        Bd (
          if r15 = 0 then (
            some ((2 : Int32), σ15)
          ) else (
            some ((0 : Int32), σ15)
          )
        ) fun o18 σj18 =>
          Lt (o4 ||| o18) fun v27 =>
            Bd (lp_X6_bars_30 N N v27 (2 : Int32) σj18) fun o30 σl30 =>
              some (o30, σl30)
def g_X6_symbolBits (N : Nat) (a1 : Int32) (a2 : Int32) (σ : fS) : Option (Int32 × fS) :=
  Bv (g_X6_start N σ) fun σ1 =>
    Bv (g_X6_add N a1 σ1) fun σ6 =>
      Bv (g_X6_add N a2 σ6) fun σ11 =>
        Bv (g_X6_add N (1 : Int32) σ11) fun σ16 =>
          Bd (g_X6_bars N σ16) fun r20 σ20 =>
            some (r20, σ20)
def lp_X6_addAll_2 (N : Nat) (q1 : Nat) : Nat → Int32 → fS → Option fS
  | 0, _, _ => none
  | n2 + 1, x2, σ =>
    if (σ.1 q1 1) ≤ x2 then (
      some σ
    ) else (
      Bd (g_X0_kindAt N q1 x2 σ) fun r13 σ13 =>
        Bv (g_X6_add N r13 σ13) fun σ16 =>
          lp_X6_addAll_2 N q1 n2 (x2 + (1 : Int32)) σ16
    )
def g_X6_addAll (N : Nat) (k1 : Nat) (σ : fS) : Option fS :=
  Bv (lp_X6_addAll_2 N k1 N (0 : Int32) σ) fun σl2 =>
    some σl2
def lp_X0_settle_17 (N : Nat) (q0 : Nat) (p2 : Int32) : Nat → Int32 → fS → Option fS
  | 0, _, _ => none
  | n17 + 1, x3, σ =>
    if p2 ≤ x3 then (
      some σ
    ) else (
      Bd (g_X0_kindAt N q0 x3 σ) fun r30 σ30 =>
        Bd (g_X0_kindAt N q0 p2 σ30) fun r35 σ35 =>
          Bd (g_X6_symbolBits N r30 r35 σ35) fun r38 σ38 =>
            Lt (sI σ38 q0 2 ((σ.1 q0 2) ^^^ r38)) fun σ42 =>
              lp_X0_settle_17 N q0 p2 n17 (x3 + (1 : Int32)) σ42
    )
def lp_X0_settle_7 (N : Nat) (q0 : Nat) : Nat → Int32 → fS → Option fS
  | 0, _, _ => none
  | n7 + 1, x2, σ =>
    if (σ.1 q0 1) ≤ x2 then (
      some σ
    ) else (
      Bv (lp_X0_settle_17 N q0 x2 N (0 : Int32) σ) fun σl17 =>
        lp_X0_settle_7 N q0 n7 (x2 + (1 : Int32)) σl17
    )
def g_X0_settle (N : Nat) (k : Nat) (σ : fS) : Option fS :=
  Lt (sI σ k 2 (0 : Int32)) fun σ2 =>
    Bv (lp_X0_settle_7 N k N (1 : Int32) σ2) fun σl7 =>
      Bv (g_X6_start N σl7) fun σ58 =>
        Bv (g_X6_addAll N k σ58) fun σ63 =>
          Bd (g_X6_bars N σ63) fun r68 σ68 =>
            Lt (sI σ68 k 3 r68) fun σ71 =>
              some σ71
def lp_X0_countAbove_4 (N : Nat) (q0 : Nat) : Nat → Int32 → Int32 → fS → Option (Int32 × fS)
  | 0, _, _, _ => none
  | n4 + 1, x1, x2, σ =>
    if (σ.1 q0 1) ≤ x2 then (
      some (x1, σ)
    ) else (
      Bd (g_X0_kindAt N q0 x2 σ) fun r15 σ15 =>
        if (r15 &&& (1 : Int32)) = 0 then (
          Lt (x1 + (1 : Int32)) fun v29 =>
            lp_X0_countAbove_4 N q0 n4 v29 (x2 + (1 : Int32)) σ15
        ) else (
          Lt (x1 + (0 : Int32)) fun v29 =>
            lp_X0_countAbove_4 N q0 n4 v29 (x2 + (1 : Int32)) σ15
        )
    )
def g_X0_countAbove (N : Nat) (k : Nat) (σ : fS) : Option (Int32 × fS) :=
  Bd (lp_X0_countAbove_4 N k N (0 : Int32) (0 : Int32) σ) fun o4 σl4 =>
    some (o4, σl4)
def lp_X0_det_4 (N : Nat) (q0 : Nat) : Nat → Int32 → Int32 → fS → Option (Int32 × fS)
  | 0, _, _, _ => none
  | n4 + 1, x1, x2, σ =>
    if (σ.1 q0 1) ≤ x2 then (
      some (x1, σ)
    ) else (
      Bd (g_X0_kindAt N q0 x2 σ) fun r15 σ15 =>
        Lt (x1 ^^^ r15) fun v19 =>
          lp_X0_det_4 N q0 n4 v19 (x2 + (1 : Int32)) σ15
    )
def g_X0_det (N : Nat) (k : Nat) (σ : fS) : Option (Int32 × fS) :=
  Bd (lp_X0_det_4 N k N (0 : Int32) (0 : Int32) σ) fun o4 σl4 =>
    some (o4, σl4)
def g_X0_isLike (N : Nat) (k : Nat) (k1 : Nat) (σ : fS) : Option (Int32 × fS) :=
  if (σ.1 k 1) = (σ.1 k1 1) then (
    if (σ.1 k 2) = (σ.1 k1 2) then (
      Bd (g_X0_det N k σ) fun r23 σ23 =>
        Bd (g_X0_det N k1 σ23) fun r27 σ27 =>
          if r23 = r27 then (
            Bd (g_X0_countAbove N k σ27) fun r34 σ34 =>
              Bd (g_X0_countAbove N k1 σ34) fun r38 σ38 =>
                if r34 = r38 then (
                  some ((1 : Int32), σ38)
                ) else (
                  some ((0 : Int32), σ38)
                )
          ) else (
            some ((0 : Int32), σ27)
          )
    ) else (
      some ((0 : Int32), σ)
    )
  ) else (
    some ((0 : Int32), σ)
  )
def g_X0_planes (N : Nat) (k : Nat) (σ : fS) : Option (Int32 × fS) :=
  if (σ.1 k 3) = 0 then (
    if (σ.1 k 1) = (4 : Int32) then (
      Bd (g_X0_det N k σ) fun r18 σ18 =>
        if r18 = 0 then (
          some ((2 : Int32), σ18)
        ) else (
          some ((1 : Int32), σ18)
        )
    ) else (
      some ((1 : Int32), σ)
    )
  ) else (
    some ((0 : Int32), σ)
  )
def g_X0_restDet (N : Nat) (k : Nat) (σ : fS) : Option (Int32 × fS) :=
  Bd (g_X0_planes N k σ) fun r1 σ1 =>
    if r1 = (1 : Int32) then (
      Bd (g_X0_det N k σ1) fun r9 σ9 =>
        some ((r9 ^^^ (1 : Int32)), σ9)
    ) else (
      Bd (g_X0_det N k σ1) fun r18 σ18 =>
        some (r18, σ18)
    )
def g_X0_restHasse (N : Nat) (k : Nat) (σ : fS) : Option (Int32 × fS) :=
  Bd (g_X0_planes N k σ) fun r1 σ1 =>
    if r1 = 0 then (
      some ((σ1.1 k 2), σ1)
    ) else (
      if (σ1.1 k 1) = ((2 : Int32) * r1) then (
        some ((0 : Int32), σ1)
      ) else (
        Bd (g_X0_restDet N k σ1) fun r35 σ35 =>
          Bd (g_X6_symbolBits N (1 : Int32) r35 σ35) fun r38 σ38 =>
            some (((σ1.1 k 2) ^^^ r38), σ38)
      )
    )
def lp_X2_rootOf_5 (N : Nat) (p0 : Int32) : Nat → Int32 → Int32 → fS → Option (Int32 × fS)
  | 0, _, _, _ => none
  | n5 + 1, x1, x2, σ =>
    if x2 < 0 then (
      some (x1, σ)
    ) else (
      Lt (x1 ||| ((1 : Int32) <<< (x2 &&& (31 : Int32)))) fun v14 =>
        if p0 < (v14 * v14) then (
          lp_X2_rootOf_5 N p0 n5 x1 (x2 + (-1 : Int32)) σ
        ) else (
          lp_X2_rootOf_5 N p0 n5 v14 (x2 + (-1 : Int32)) σ
        )
    )
def g_X2_rootOf (N : Nat) (a0 : Int32) (σ : fS) : Option (Int32 × fS) :=
  Bd (lp_X2_rootOf_5 N a0 N (0 : Int32) (14 : Int32) σ) fun o5 σl5 =>
    some (o5, σl5)
def g_J9_max_7cf53 (N : Nat) (a0 : Int32) (a1 : Int32) (σ : fS) : Option (Int32 × fS) :=
  if a0 < a1 then (
    some (a1, σ)
  ) else (
    some (a0, σ)
  )
def g_X1_finish (N : Nat) (a1 : Int32) (a2 : Int32) (a3 : Int32) (σ : fS) : Option fS :=
  Gd (fin a1 5) (
    Lt (σ.1 17 (a1).toNatClampNeg) fun v9 =>
      if v9 = 0 then (
        some σ
      ) else (
        Gd (nz v9) (
          if (iR a2 v9) = 0 then (
            Gd (nz v9) (
              Lt (-(a2 / v9)) fun v29 =>
                if v29 < 0 then (
                  some σ
                ) else (
                  if v29 ≤ ((σ.1 18 3) * (σ.1 18 3)) then (
                    Bd (g_X2_rootOf N v29 σ) fun r53 σ53 =>
                      Bd (g_J9_max_7cf53 N a3 r53 σ53) fun r61 σ61 =>
                        if (r53 * r53) = v29 then (
                          if r61 = 0 then (
                            some σ61
                          ) else (
                            if (σ61.1 18 3) < r61 then (
                              some σ61
                            ) else (
                              if (σ61.1 18 4) = 0 then (
                                Gd (fin a1 5) (
                                Lt (sI σ61 19 (a1).toNatClampNeg r53) fun σ110 =>
                                  Lt (sC σ110) fun σ126 =>
                                    Lt (sI σ126 18 3 (r61 - (1 : Int32))) fun σ134 =>
                                      Lt (sI σ134 18 5 (1 : Int32)) fun σ139 =>
                                        some σ139
                                )
                              ) else (
                                if r53 = 0 then (
                                  some σ61
                                ) else (
                                  Gd (fin a1 5) (
                                  Lt (sI σ61 19 (a1).toNatClampNeg r53) fun σ110 =>
                                    Lt (sC σ110) fun σ126 =>
                                      Lt (sI σ126 18 3 (r61 - (1 : Int32))) fun σ134 =>
                                        Lt (sI σ134 18 5 (1 : Int32)) fun σ139 =>
                                          some σ139
                                  )
                                )
                              )
                            )
                          )
                        ) else (
                          some σ61
                        )
                  ) else (
                    some σ
                  )
                )
            )
          ) else (
            some σ
          )
        )
      )
  )
def lp_X1_seek_34 (N : Nat) (rec : Int32 → Int32 → Int32 → fS → Option fS) (p1 : Int32) (p2 : Int32) (p3 : Int32) : Nat → Int32 → fS → Option fS
  | 0, _, _ => none
  | n34 + 1, x4, σ =>
    if (15 : Int32) < x4 then (
      some σ
    ) else (
      if (σ.1 18 3) < x4 then (
        some σ
      ) else (
        Gd (fin p1 5) (
        Lt (sI σ 19 (p1).toNatClampNeg x4) fun σ57 =>
          Gd (fin p1 5) (
            Bd (g_J9_max_7cf53 N p3 x4 σ57) fun r82 σ82 =>
              Bv (rec (p1 + (1 : Int32)) (p2 + (((σ57.1 17 (p1).toNatClampNeg) * x4) * x4)) r82 σ82) fun σ85 =>
                lp_X1_seek_34 N rec p1 p2 p3 n34 (x4 + (1 : Int32)) σ85
          )
        )
      )
    )
def b_X1_seek (N : Nat) (rec : Int32 → Int32 → Int32 → fS → Option fS) (a1 : Int32) (a2 : Int32) (a3 : Int32) (σ : fS) : Option fS :=
  if a1 < 0 then (
    some σ
  ) else (
    if a1 < (5 : Int32) then (
      if a1 < ((σ.1 16 1) - (1 : Int32)) then (
        Bv (lp_X1_seek_34 N rec a1 a2 a3 N (0 : Int32) σ) fun σl34 =>
          some σl34
      ) else (
        Bv (g_X1_finish N a1 a2 a3 σ) fun σ27 =>
          some σ27
      )
    ) else (
      some σ
    )
  )
def g_X1_seek (N : Nat) : Nat → Int32 → Int32 → Int32 → fS → Option fS
  | 0, _, _, _, _ => none
  | d + 1, a1, a2, a3, σ => b_X1_seek N (g_X1_seek N d) a1 a2 a3 σ
def g_X1_find (N : Nat) (a1 : Int32) (a2 : Int32) (σ : fS) : Option (Int32 × fS) :=
  Lt (sI σ 18 3 a1) fun σ2 =>
    Gd (isB a2) (
    Lt (sI σ2 18 4 a2) fun σ7 =>
      Lt (sI σ7 18 5 (0 : Int32)) fun σ12 =>
        if (σ12.1 16 1) ≤ 0 then (
          Gd (isB (σ12.1 18 5)) (
          some ((σ12.1 18 5), σ12)
          )
        ) else (
          Bd (g_X6_bars N σ12) fun r29 σ29 =>
            if r29 = 0 then (
              Bv (g_X1_seek N 6 (0 : Int32) (0 : Int32) (0 : Int32) σ29) fun σ39 =>
                Gd (isB (σ39.1 18 5)) (
                some ((σ39.1 18 5), σ39)
                )
            ) else (
              Gd (isB (σ29.1 18 5)) (
              some ((σ29.1 18 5), σ29)
              )
            )
        )
    )
def g_X1_numberAt (N : Nat) (a1 : Int32) (σ : fS) : Option (Int32 × fS) :=
  if a1 < 0 then (
    some ((0 : Int32), σ)
  ) else (
    if (5 : Int32) ≤ a1 then (
      some ((0 : Int32), σ)
    ) else (
      Gd (fin a1 5) (
        some ((σ.1 20 (a1).toNatClampNeg), σ)
      )
    )
  )
def lp_X2_kindOf_32 (N : Nat) (p3 : Int32) (p4 : Int32) : Nat → Int32 → Int32 → Int32 → fS → Option ((Int32 × Int32) × fS)
  | 0, _, _, _, _ => none
  | n32 + 1, x1, x2, x5, σ =>
    if (31 : Int32) ≤ x5 then (
      some ((x1, x2), σ)
    ) else (
      if x2 = 0 then (
        some ((x1, x2), σ)
      ) else (
        Gd (nz p4) (
          if (iR x2 p4) = 0 then (
            Gd (nz p4) (
              Lt (x2 / p4) fun v54 =>
                Lt (x1 ^^^ ((1 : Int32) <<< (p3 &&& (31 : Int32)))) fun v60 =>
                  lp_X2_kindOf_32 N p3 p4 n32 v60 v54 (x5 + (1 : Int32)) σ
            )
          ) else (
            some ((x1, x2), σ)
          )
        )
      )
    )
def lp_X2_kindOf_14 (N : Nat) : Nat → Int32 → Int32 → Int32 → fS → Option (Int32 × fS)
  | 0, _, _, _, _ => none
  | n14 + 1, x1, x2, x3, σ =>
    if (7 : Int32) ≤ x3 then (
      some (x1, σ)
    ) else (
      Gd (fin x3 7) (
        Lt (f_B (x3).toNatClampNeg) fun v27 =>
          Bd (lp_X2_kindOf_32 N x3 v27 N x1 x2 (0 : Int32) σ) fun o32 σl32 =>
            lp_X2_kindOf_14 N n14 o32.1 o32.2 (x3 + (1 : Int32)) σl32
      )
    )
def g_X2_kindOf (N : Nat) (a0 : Int32) (σ : fS) : Option (Int32 × fS) :=
  Bd (
    if 0 ≤ a0 then (
      some ((0 : Int32), σ)
    ) else (
      some ((1 : Int32), σ)
    )
  ) fun o1 σj1 =>
    Bd (lp_X2_kindOf_14 N N o1 a0 (1 : Int32) σj1) fun o14 σl14 =>
      some (o14, σl14)
def g_J9_abs_0f7a4 (N : Nat) (a0 : Int32) (σ : fS) : Option (Int32 × fS) :=
  if 0 ≤ a0 then (
    some (a0, σ)
  ) else (
    some ((-a0), σ)
  )
def lp_X2_roughPart_24 (N : Nat) (p2 : Int32) (p3 : Int32) : Nat → Int32 → Int32 → fS → Option (Int32 × fS)
  | 0, _, _, _ => none
  | n24 + 1, x1, x4, σ =>
    if (31 : Int32) ≤ x4 then (
      some (x1, σ)
    ) else (
      if x1 = 0 then (
        some (x1, σ)
      ) else (
        Gd (nz p3) (
          if (iR x1 p3) = 0 then (
            Gd (nz p3) (
              Lt (x1 / p3) fun v44 =>
                lp_X2_roughPart_24 N p2 p3 n24 v44 (x4 + (1 : Int32)) σ
            )
          ) else (
            some (x1, σ)
          )
        )
      )
    )
def lp_X2_roughPart_7 (N : Nat) : Nat → Int32 → Int32 → fS → Option (Int32 × fS)
  | 0, _, _, _ => none
  | n7 + 1, x1, x2, σ =>
    if (7 : Int32) ≤ x2 then (
      some (x1, σ)
    ) else (
      Gd (fin x2 7) (
        Lt (f_B (x2).toNatClampNeg) fun v20 =>
          Bd (lp_X2_roughPart_24 N x2 v20 N x1 (0 : Int32) σ) fun o24 σl24 =>
            lp_X2_roughPart_7 N n7 o24 (x2 + (1 : Int32)) σl24
      )
    )
def g_X2_roughPart (N : Nat) (a0 : Int32) (σ : fS) : Option (Int32 × fS) :=
  Bd (g_J9_abs_0f7a4 N a0 σ) fun r1 σ1 =>
    Bd (lp_X2_roughPart_7 N N r1 (1 : Int32) σ1) fun o7 σl7 =>
      some (o7, σl7)
def g_X2_isNumber (N : Nat) (a0 : Int32) (σ : fS) : Option (Int32 × fS) :=
  if a0 < (-99 : Int32) then (
    some ((0 : Int32), σ)
  ) else (
    if (99 : Int32) < a0 then (
      some ((0 : Int32), σ)
    ) else (
      Bd (g_X2_roughPart N a0 σ) fun r13 σ13 =>
        if r13 = (1 : Int32) then (
          some ((1 : Int32), σ13)
        ) else (
          some ((0 : Int32), σ13)
        )
    )
  )
def g_X2_isSquareTimesCore (N : Nat) (a0 : Int32) (σ : fS) : Option (Int32 × fS) :=
  Bd (g_X2_roughPart N a0 σ) fun r1 σ1 =>
    Bd (g_X2_rootOf N r1 σ1) fun r6 σ6 =>
      if (r6 * r6) = r1 then (
        some ((1 : Int32), σ6)
      ) else (
        some ((0 : Int32), σ6)
      )
def lp_X2_commonPart_13 (N : Nat) : Nat → Int32 → Int32 → Int32 → fS → Option (Int32 × fS)
  | 0, _, _, _, _ => none
  | n13 + 1, x2, x3, x4, σ =>
    if (64 : Int32) ≤ x4 then (
      some (x2, σ)
    ) else (
      if x3 = 0 then (
        some (x2, σ)
      ) else (
        Gd (nz x3) (
          Lt (iR x2 x3) fun v27 =>
            lp_X2_commonPart_13 N n13 x3 v27 (x4 + (1 : Int32)) σ
        )
      )
    )
def g_X2_commonPart (N : Nat) (a0 : Int32) (a1 : Int32) (σ : fS) : Option (Int32 × fS) :=
  Bd (g_J9_abs_0f7a4 N a0 σ) fun r1 σ1 =>
    Bd (g_J9_abs_0f7a4 N a1 σ1) fun r6 σ6 =>
      Bd (lp_X2_commonPart_13 N N r1 r6 (0 : Int32) σ6) fun o13 σl13 =>
        some (o13, σl13)
def g_X3_write (N : Nat) (a1 : Int32) (σ : fS) : Option (Int32 × fS) :=
  if (σ.1 1 1) < 0 then (
    some ((0 : Int32), σ)
  ) else (
    if (σ.1 1 1) < (18 : Int32) then (
      Gd (fin (σ.1 1 1) 18) (
      Lt (sI σ 2 ((σ.1 1 1)).toNatClampNeg a1) fun σ27 =>
        Lt (sI σ27 1 1 ((σ27.1 1 1) + (1 : Int32))) fun σ35 =>
          some ((1 : Int32), σ35)
      )
    ) else (
      some ((0 : Int32), σ)
    )
  )
def g_X3_codeAt (N : Nat) (a1 : Int32) (σ : fS) : Option (Int32 × fS) :=
  if a1 < 0 then (
    some ((0 : Int32), σ)
  ) else (
    if (σ.1 1 1) ≤ a1 then (
      some ((0 : Int32), σ)
    ) else (
      if (18 : Int32) ≤ a1 then (
        some ((0 : Int32), σ)
      ) else (
        Gd (fin a1 18) (
          some ((σ.1 2 (a1).toNatClampNeg), σ)
        )
      )
    )
  )
def g_X3_isDigit (N : Nat) (a0 : Int32) (σ : fS) : Option (Int32 × fS) :=
  if a0 < (48 : Int32) then (
    some ((0 : Int32), σ)
  ) else (
    if (57 : Int32) < a0 then (
      some ((0 : Int32), σ)
    ) else (
      some ((1 : Int32), σ)
    )
  )
def g_X3_endsInDigit (N : Nat)  (σ : fS) : Option (Int32 × fS) :=
  Bd (g_X3_codeAt N ((σ.1 1 1) - (1 : Int32)) σ) fun r7 σ7 =>
    Bd (g_X3_isDigit N r7 σ7) fun r10 σ10 =>
      Gd (isB r10) (
      some (r10, σ10)
      )
def g_X3_goesOn (N : Nat) (a0 : Int32) (a1 : Int32) (σ : fS) : Option (Int32 × fS) :=
  Bd (g_X2_isNumber N ((((10 : Int32) * a0) + a1) - (48 : Int32)) σ) fun r9 σ9 =>
    Gd (isB r9) (
    some (r9, σ9)
    )
def lp_X3_readInto_11 (N : Nat) (q1 : Nat) : Nat → Int32 → Int32 → Int32 → fS → Option ((Int32 × fS) ⊕ ((Int32 × Int32) × fS))
  | 0, _, _, _, _ => none
  | n11 + 1, x2, x3, x4, σ =>
    if (σ.1 1 1) ≤ x4 then (
      some (.inr ((x2, x3), σ))
    ) else (
      Bd (g_X3_codeAt N x4 σ) fun r23 σ23 =>
        Bd (g_X3_isDigit N r23 σ23) fun r30 σ30 =>
          if r30 = 0 then (
            if r23 = (45 : Int32) then (
              if x2 = 0 then (
                if x3 = 0 then (
                  lp_X3_readInto_11 N q1 n11 x2 (1 : Int32) (x4 + (1 : Int32)) σ30
                ) else (
                  if r23 = (44 : Int32) then (
                    if x2 = 0 then (
                      some (.inl (x4, σ30))
                    ) else (
                      if (3 : Int32) ≤ (σ30.1 q1 1) then (
                        some (.inl (x4, σ30))
                      ) else (
                        Bd (
                          if x3 = 0 then (
                            some (x2, σ30)
                          ) else (
                            some ((-x2), σ30)
                          )
                        ) fun o100 σj100 =>
                          Bd (g_X2_kindOf N o100 σj100) fun r109 σ109 =>
                            Bv (g_X0_add N q1 r109 σ109) fun σ112 =>
                              lp_X3_readInto_11 N q1 n11 (0 : Int32) (0 : Int32) (x4 + (1 : Int32)) σ112
                      )
                    )
                  ) else (
                    some (.inl (x4, σ30))
                  )
                )
              ) else (
                if r23 = (44 : Int32) then (
                  if x2 = 0 then (
                    some (.inl (x4, σ30))
                  ) else (
                    if (3 : Int32) ≤ (σ30.1 q1 1) then (
                      some (.inl (x4, σ30))
                    ) else (
                      Bd (
                        if x3 = 0 then (
                          some (x2, σ30)
                        ) else (
                          some ((-x2), σ30)
                        )
                      ) fun o100 σj100 =>
                        Bd (g_X2_kindOf N o100 σj100) fun r109 σ109 =>
                          Bv (g_X0_add N q1 r109 σ109) fun σ112 =>
                            lp_X3_readInto_11 N q1 n11 (0 : Int32) (0 : Int32) (x4 + (1 : Int32)) σ112
                    )
                  )
                ) else (
                  some (.inl (x4, σ30))
                )
              )
            ) else (
              if r23 = (44 : Int32) then (
                if x2 = 0 then (
                  some (.inl (x4, σ30))
                ) else (
                  if (3 : Int32) ≤ (σ30.1 q1 1) then (
                    some (.inl (x4, σ30))
                  ) else (
                    Bd (
                      if x3 = 0 then (
                        some (x2, σ30)
                      ) else (
                        some ((-x2), σ30)
                      )
                    ) fun o100 σj100 =>
                      Bd (g_X2_kindOf N o100 σj100) fun r109 σ109 =>
                        Bv (g_X0_add N q1 r109 σ109) fun σ112 =>
                          lp_X3_readInto_11 N q1 n11 (0 : Int32) (0 : Int32) (x4 + (1 : Int32)) σ112
                  )
                )
              ) else (
                some (.inl (x4, σ30))
              )
            )
          ) else (
            Bd (g_X3_goesOn N x2 r23 σ30) fun r39 σ39 =>
              if r39 = 0 then (
                if r23 = (45 : Int32) then (
                  if x2 = 0 then (
                    if x3 = 0 then (
                      lp_X3_readInto_11 N q1 n11 x2 (1 : Int32) (x4 + (1 : Int32)) σ39
                    ) else (
                      if r23 = (44 : Int32) then (
                        if x2 = 0 then (
                          some (.inl (x4, σ39))
                        ) else (
                          if (3 : Int32) ≤ (σ39.1 q1 1) then (
                            some (.inl (x4, σ39))
                          ) else (
                            Bd (
                              if x3 = 0 then (
                                some (x2, σ39)
                              ) else (
                                some ((-x2), σ39)
                              )
                            ) fun o100 σj100 =>
                              Bd (g_X2_kindOf N o100 σj100) fun r109 σ109 =>
                                Bv (g_X0_add N q1 r109 σ109) fun σ112 =>
                                  lp_X3_readInto_11 N q1 n11 (0 : Int32) (0 : Int32) (x4 + (1 : Int32)) σ112
                          )
                        )
                      ) else (
                        some (.inl (x4, σ39))
                      )
                    )
                  ) else (
                    if r23 = (44 : Int32) then (
                      if x2 = 0 then (
                        some (.inl (x4, σ39))
                      ) else (
                        if (3 : Int32) ≤ (σ39.1 q1 1) then (
                          some (.inl (x4, σ39))
                        ) else (
                          Bd (
                            if x3 = 0 then (
                              some (x2, σ39)
                            ) else (
                              some ((-x2), σ39)
                            )
                          ) fun o100 σj100 =>
                            Bd (g_X2_kindOf N o100 σj100) fun r109 σ109 =>
                              Bv (g_X0_add N q1 r109 σ109) fun σ112 =>
                                lp_X3_readInto_11 N q1 n11 (0 : Int32) (0 : Int32) (x4 + (1 : Int32)) σ112
                        )
                      )
                    ) else (
                      some (.inl (x4, σ39))
                    )
                  )
                ) else (
                  if r23 = (44 : Int32) then (
                    if x2 = 0 then (
                      some (.inl (x4, σ39))
                    ) else (
                      if (3 : Int32) ≤ (σ39.1 q1 1) then (
                        some (.inl (x4, σ39))
                      ) else (
                        Bd (
                          if x3 = 0 then (
                            some (x2, σ39)
                          ) else (
                            some ((-x2), σ39)
                          )
                        ) fun o100 σj100 =>
                          Bd (g_X2_kindOf N o100 σj100) fun r109 σ109 =>
                            Bv (g_X0_add N q1 r109 σ109) fun σ112 =>
                              lp_X3_readInto_11 N q1 n11 (0 : Int32) (0 : Int32) (x4 + (1 : Int32)) σ112
                      )
                    )
                  ) else (
                    some (.inl (x4, σ39))
                  )
                )
              ) else (
                Lt ((((10 : Int32) * x2) + r23) - (48 : Int32)) fun v55 =>
                  lp_X3_readInto_11 N q1 n11 v55 x3 (x4 + (1 : Int32)) σ39
              )
          )
    )
def g_X3_readInto (N : Nat) (k1 : Nat) (σ : fS) : Option (Int32 × fS) :=
  Bv (g_X0_empty N k1 σ) fun σ1 =>
    Bs (lp_X3_readInto_11 N k1 N (0 : Int32) (0 : Int32) (0 : Int32) σ1) fun o11 σl11 =>
      if o11.1 = 0 then (
        some ((σl11.1 1 1), σl11)
      ) else (
        Bd (
          if o11.2 = 0 then (
            some (o11.1, σl11)
          ) else (
            some ((-o11.1), σl11)
          )
        ) fun o137 σj137 =>
          Bd (g_X2_kindOf N o137 σj137) fun r146 σ146 =>
            Bv (g_X0_add N k1 r146 σ146) fun σ149 =>
              some ((σ149.1 1 1), σ149)
      )
def g_X4_has (N : Nat) (a1 : Int32) (σ : fS) : Option (Int32 × fS) :=
  if a1 < 0 then (
    some ((0 : Int32), σ)
  ) else (
    if (σ.1 9 7) ≤ a1 then (
      some ((0 : Int32), σ)
    ) else (
      if (56 : Int32) ≤ a1 then (
        some ((0 : Int32), σ)
      ) else (
        some ((1 : Int32), σ)
      )
    )
  )
def g_X4_addIfReduced (N : Nat) (a1 : Int32) (a2 : Int32) (a3 : Int32) (σ : fS) : Option fS :=
  Bd (
    if a1 < a3 then (
      some ((1 : Int32), σ)
    ) else (
      if a1 = a3 then (
        if a2 < 0 then (
          some ((0 : Int32), σ)
        ) else (
          some ((1 : Int32), σ)
        )
      ) else (
        some ((0 : Int32), σ)
      )
    )
  ) fun o2 σj2 =>
    Bd (g_X2_commonPart N a1 a2 σj2) fun r23 σ23 =>
      Bd (g_X2_commonPart N r23 a3 σ23) fun r27 σ27 =>
        if o2 = 0 then (
          some σ27
        ) else (
          if r27 = (1 : Int32) then (
            if (56 : Int32) ≤ (σ27.1 9 7) then (
              some σ27
            ) else (
              Gd (fin (σ27.1 9 7) 56) (
              Lt (sI σ27 10 ((σ27.1 9 7)).toNatClampNeg a1) fun σ61 =>
                Gd (fin (σ61.1 9 7) 56) (
                Lt (sI σ61 11 ((σ61.1 9 7)).toNatClampNeg a2) fun σ71 =>
                  Gd (fin (σ71.1 9 7) 56) (
                  Lt (sI σ71 12 ((σ71.1 9 7)).toNatClampNeg a3) fun σ81 =>
                    Lt (sI σ81 9 7 ((σ81.1 9 7) + (1 : Int32))) fun σ89 =>
                      some σ89
                  )
                )
              )
            )
          ) else (
            some σ27
          )
        )
def g_J9_floorMod_7cf53 (N : Nat) (a0 : Int32) (a1 : Int32) (σ : fS) : Option (Int32 × fS) :=
  Gd (nz a1) (
    Lt (iR a0 a1) fun v3 =>
      if 0 ≤ (a0 ^^^ a1) then (
        some (v3, σ)
      ) else (
        if v3 = 0 then (
          some (v3, σ)
        ) else (
          some ((v3 + a1), σ)
        )
      )
  )
def g_X4_isMet (N : Nat) (a1 : Int32) (a2 : Int32) (σ : fS) : Option (Int32 × fS) :=
  Bd (g_X4_has N a1 σ) fun r2 σ2 =>
    if r2 = 0 then (
      some ((0 : Int32), σ2)
    ) else (
      if a2 < 0 then (
        some ((0 : Int32), σ2)
      ) else (
        if a2 < (σ2.1 9 6) then (
          Gd (fin ((a1 * (3 : Int32)) + (a2 / (64 : Int32))) 168) (
            if (lg_cmp (((σ2.2 14 (((a1 * (3 : Int32)) + (a2 / (64 : Int32)))).toNatClampNeg) >>> (((iR a2 (64 : Int32))).toInt64 &&& (63 : Int64))) &&& (1 : Int64)) (1 : Int64)) = 0 then (
              some ((1 : Int32), σ2)
            ) else (
              some ((0 : Int32), σ2)
            )
          )
        ) else (
          some ((0 : Int32), σ2)
        )
      )
    )
def lp_X4_addWithSquares_2 (N : Nat) (p1 : Int32) (p2 : Int32) : Nat → Int32 → fS → Option fS
  | 0, _, _ => none
  | n2 + 1, x3, σ =>
    if (σ.1 9 6) ≤ x3 then (
      some σ
    ) else (
      Bd (g_X4_has N p1 σ) fun r12 σ12 =>
        if r12 = 0 then (
          some σ12
        ) else (
          Gd (fin x3 160) (
            if (σ12.1 15 (x3).toNatClampNeg) = 0 then (
              lp_X4_addWithSquares_2 N p1 p2 n2 (x3 + (1 : Int32)) σ12
            ) else (
              Gd (nz (σ12.1 9 6)) (
                Lt (iR ((p2 * x3) * x3) (σ12.1 9 6)) fun v37 =>
                  Gd (fin ((p1 * (3 : Int32)) + (v37 / (64 : Int32))) 168) (
                    Gd (fin ((p1 * (3 : Int32)) + (v37 / (64 : Int32))) 168) (
                    Lt (sL σ12 14 (((p1 * (3 : Int32)) + (v37 / (64 : Int32)))).toNatClampNeg ((σ12.2 14 (((p1 * (3 : Int32)) + (v37 / (64 : Int32)))).toNatClampNeg) ||| ((1 : Int64) <<< (((iR v37 (64 : Int32))).toInt64 &&& (63 : Int64))))) fun σ62 =>
                      lp_X4_addWithSquares_2 N p1 p2 n2 (x3 + (1 : Int32)) σ62
                    )
                  )
              )
            )
          )
        )
    )
def g_X4_addWithSquares (N : Nat) (a1 : Int32) (a2 : Int32) (σ : fS) : Option fS :=
  Bv (lp_X4_addWithSquares_2 N a1 a2 N (1 : Int32) σ) fun σl2 =>
    some σl2
def lp_X4_findRests_2 (N : Nat) (p1 : Int32) : Nat → Int32 → fS → Option fS
  | 0, _, _ => none
  | n2 + 1, x2, σ =>
    if (3 : Int32) ≤ x2 then (
      some σ
    ) else (
      Bd (g_X4_has N p1 σ) fun r9 σ9 =>
        if r9 = 0 then (
          some σ9
        ) else (
          Gd (fin ((p1 * (3 : Int32)) + x2) 168) (
          Lt (sL σ9 14 (((p1 * (3 : Int32)) + x2)).toNatClampNeg (0 : Int64)) fun σ25 =>
            lp_X4_findRests_2 N p1 n2 (x2 + (1 : Int32)) σ25
          )
        )
    )
def lp_X4_findRests_64 (N : Nat) (p1 : Int32) (p2 : Int32) : Nat → Int32 → fS → Option fS
  | 0, _, _ => none
  | n64 + 1, x3, σ =>
    if (σ.1 9 6) ≤ x3 then (
      some σ
    ) else (
      Gd (fin p1 56) (
        Gd (fin p1 56) (
          Gd (fin p1 56) (
            Lt (((((σ.1 10 (p1).toNatClampNeg) * x3) * x3) + (((σ.1 11 (p1).toNatClampNeg) * x3) * p2)) + (((σ.1 12 (p1).toNatClampNeg) * p2) * p2)) fun v104 =>
              Bd (g_J9_floorMod_7cf53 N v104 (σ.1 9 6) σ) fun r112 σ112 =>
                Gd (fin r112 160) (
                  if (σ112.1 15 (r112).toNatClampNeg) = 0 then (
                    lp_X4_findRests_64 N p1 p2 n64 (x3 + (1 : Int32)) σ112
                  ) else (
                    Bd (g_X4_isMet N p1 r112 σ112) fun r131 σ131 =>
                      if r131 = 0 then (
                        Bv (g_X4_addWithSquares N p1 r112 σ131) fun σ141 =>
                          lp_X4_findRests_64 N p1 p2 n64 (x3 + (1 : Int32)) σ141
                      ) else (
                        lp_X4_findRests_64 N p1 p2 n64 (x3 + (1 : Int32)) σ131
                      )
                  )
                )
          )
        )
      )
    )
def lp_X4_findRests_34 (N : Nat) (p1 : Int32) : Nat → Int32 → fS → Option fS
  | 0, _, _ => none
  | n34 + 1, x2, σ =>
    if (σ.1 9 6) < x2 then (
      some σ
    ) else (
      Bd (g_X4_has N p1 σ) fun r44 σ44 =>
        if r44 = 0 then (
          some σ44
        ) else (
          Gd (nz x2) (
            if (iR (σ44.1 9 6) x2) = 0 then (
              Bv (lp_X4_findRests_64 N p1 x2 N (0 : Int32) σ44) fun σl64 =>
                lp_X4_findRests_34 N p1 n34 (x2 + (1 : Int32)) σl64
            ) else (
              lp_X4_findRests_34 N p1 n34 (x2 + (1 : Int32)) σ44
            )
          )
        )
    )
def g_X4_findRests (N : Nat) (a1 : Int32) (σ : fS) : Option fS :=
  Bv (lp_X4_findRests_2 N a1 N (0 : Int32) σ) fun σl2 =>
    Bv (lp_X4_findRests_34 N a1 N (1 : Int32) σl2) fun σl34 =>
      some σl34
def lp_X4_meetSame_2 (N : Nat) (p1 : Int32) (p2 : Int32) : Nat → Int32 → fS → Option ((Int32 × fS) ⊕ (Unit × fS))
  | 0, _, _ => none
  | n2 + 1, x3, σ =>
    if (3 : Int32) ≤ x3 then (
      some (.inr ((), σ))
    ) else (
      Bd (g_X4_has N p1 σ) fun r9 σ9 =>
        if r9 = 0 then (
          some (.inr ((), σ9))
        ) else (
          Bd (g_X4_has N p2 σ9) fun r17 σ17 =>
            if r17 = 0 then (
              some (.inr ((), σ17))
            ) else (
              Gd (fin ((p1 * (3 : Int32)) + x3) 168) (
                Gd (fin ((p2 * (3 : Int32)) + x3) 168) (
                  if (lg_cmp (σ17.2 14 (((p1 * (3 : Int32)) + x3)).toNatClampNeg) (σ17.2 14 (((p2 * (3 : Int32)) + x3)).toNatClampNeg)) = 0 then (
                    lp_X4_meetSame_2 N p1 p2 n2 (x3 + (1 : Int32)) σ17
                  ) else (
                    some (.inl ((0 : Int32), σ17))
                  )
                )
              )
            )
        )
    )
def g_X4_meetSame (N : Nat) (a1 : Int32) (a2 : Int32) (σ : fS) : Option (Int32 × fS) :=
  Bs (lp_X4_meetSame_2 N a1 a2 N (0 : Int32) σ) fun o2 σl2 =>
    some ((1 : Int32), σl2)
def lp_X4_leastSame_2 (N : Nat) (p1 : Int32) : Nat → Int32 → fS → Option ((Int32 × fS) ⊕ (Unit × fS))
  | 0, _, _ => none
  | n2 + 1, x2, σ =>
    if p1 ≤ x2 then (
      some (.inr ((), σ))
    ) else (
      Bd (g_X4_meetSame N x2 p1 σ) fun r10 σ10 =>
        if r10 = 0 then (
          lp_X4_leastSame_2 N p1 n2 (x2 + (1 : Int32)) σ10
        ) else (
          some (.inl (x2, σ10))
        )
    )
def g_X4_leastSame (N : Nat) (a1 : Int32) (σ : fS) : Option (Int32 × fS) :=
  Bs (lp_X4_leastSame_2 N a1 N (0 : Int32) σ) fun o2 σl2 =>
    some (a1, σl2)
def lp_X4_open_49 (N : Nat) (p2 : Int32) : Nat → Int32 → fS → Option fS
  | 0, _, _ => none
  | n49 + 1, x3, σ =>
    if p2 < x3 then (
      some σ
    ) else (
      Gd (nz ((4 : Int32) * p2)) (
        if (iR ((σ.1 9 6) + (x3 * x3)) ((4 : Int32) * p2)) = 0 then (
          Gd (nz ((4 : Int32) * p2)) (
            Bv (g_X4_addIfReduced N p2 x3 (((σ.1 9 6) + (x3 * x3)) / ((4 : Int32) * p2)) σ) fun σ84 =>
              lp_X4_open_49 N p2 n49 (x3 + (1 : Int32)) σ84
          )
        ) else (
          lp_X4_open_49 N p2 n49 (x3 + (1 : Int32)) σ
        )
      )
    )
def lp_X4_open_25 (N : Nat) : Nat → Int32 → fS → Option fS
  | 0, _, _ => none
  | n25 + 1, x2, σ =>
    if (σ.1 9 6) < x2 then (
      some σ
    ) else (
      if (σ.1 9 6) < (((3 : Int32) * x2) * x2) then (
        some σ
      ) else (
        Lt ((1 : Int32) - x2) fun v48 =>
          Bv (lp_X4_open_49 N x2 N v48 σ) fun σl49 =>
            lp_X4_open_25 N n25 (x2 + (1 : Int32)) σl49
      )
    )
def lp_X4_open_101 (N : Nat) : Nat → Int32 → fS → Option fS
  | 0, _, _ => none
  | n101 + 1, x2, σ =>
    if (σ.1 9 6) ≤ x2 then (
      some σ
    ) else (
      Bd (g_X2_commonPart N x2 (σ.1 9 6) σ) fun r119 σ119 =>
        Bd (
          if r119 = (1 : Int32) then (
            some ((1 : Int32), σ119)
          ) else (
            some ((0 : Int32), σ119)
          )
        ) fun o123 σj123 =>
          Gd (fin x2 160) (
          Gd (isB o123) (
          Lt (sI σj123 15 (x2).toNatClampNeg o123) fun σ131 =>
            lp_X4_open_101 N n101 (x2 + (1 : Int32)) σ131
          )
          )
    )
def lp_X4_open_140 (N : Nat) : Nat → Int32 → fS → Option fS
  | 0, _, _ => none
  | n140 + 1, x2, σ =>
    if (σ.1 9 7) ≤ x2 then (
      some σ
    ) else (
      if (56 : Int32) ≤ x2 then (
        some σ
      ) else (
        Bv (g_X4_findRests N x2 σ) fun σ156 =>
          Bd (g_X4_leastSame N x2 σ156) fun r166 σ166 =>
            Gd (fin x2 56) (
            Lt (sI σ166 13 (x2).toNatClampNeg r166) fun σ169 =>
              lp_X4_open_140 N n140 (x2 + (1 : Int32)) σ169
            )
      )
    )
def g_X4_open (N : Nat) (a1 : Int32) (σ : fS) : Option fS :=
  if a1 < (3 : Int32) then (
    some σ
  ) else (
    if a1 ≤ (160 : Int32) then (
      Lt (sI σ 9 6 a1) fun σ15 =>
        Lt (sI σ15 9 7 (0 : Int32)) fun σ20 =>
          Bv (lp_X4_open_25 N N (1 : Int32) σ20) fun σl25 =>
            Bv (lp_X4_open_101 N N (0 : Int32) σl25) fun σl101 =>
              Bv (lp_X4_open_140 N N (0 : Int32) σl101) fun σl140 =>
                some σl140
    ) else (
      some σ
    )
  )
def g_J13_bitCount_95d88 (N : Nat) (a0 : Int64) (σ : fS) : Option (Int32 × fS) :=
  Lt (a0 - (((a0).toUInt64 >>> (((1 : Int32)).toInt64.toUInt64 &&& Int64.toUInt64 63)).toInt64 &&& (6148914691236517205 : Int64))) fun v9 =>
    Lt ((v9 &&& (3689348814741910323 : Int64)) + (((v9).toUInt64 >>> (((2 : Int32)).toInt64.toUInt64 &&& Int64.toUInt64 63)).toInt64 &&& (3689348814741910323 : Int64))) fun v23 =>
      Lt ((v23 + ((v23).toUInt64 >>> (((4 : Int32)).toInt64.toUInt64 &&& Int64.toUInt64 63)).toInt64) &&& (1085102592571150095 : Int64)) fun v33 =>
        Lt (v33 + ((v33).toUInt64 >>> (((8 : Int32)).toInt64.toUInt64 &&& Int64.toUInt64 63)).toInt64) fun v40 =>
          Lt (v40 + ((v40).toUInt64 >>> (((16 : Int32)).toInt64.toUInt64 &&& Int64.toUInt64 63)).toInt64) fun v47 =>
            Lt (v47 + ((v47).toUInt64 >>> (((32 : Int32)).toInt64.toUInt64 &&& Int64.toUInt64 63)).toInt64) fun v54 =>
              some (((v54).toInt32 &&& (127 : Int32)), σ)
def lp_X4_countMet_4 (N : Nat) (p1 : Int32) : Nat → Int32 → Int32 → fS → Option (Int32 × fS)
  | 0, _, _, _ => none
  | n4 + 1, x2, x3, σ =>
    if (3 : Int32) ≤ x3 then (
      some (x2, σ)
    ) else (
      Bd (g_X4_has N p1 σ) fun r11 σ11 =>
        if r11 = 0 then (
          some (x2, σ11)
        ) else (
          Gd (fin ((p1 * (3 : Int32)) + x3) 168) (
            Bd (g_J13_bitCount_95d88 N (σ11.2 14 (((p1 * (3 : Int32)) + x3)).toNatClampNeg) σ11) fun r28 σ28 =>
              Lt (x2 + r28) fun v32 =>
                lp_X4_countMet_4 N p1 n4 v32 (x3 + (1 : Int32)) σ28
          )
        )
    )
def g_X4_countMet (N : Nat) (a1 : Int32) (σ : fS) : Option (Int32 × fS) :=
  Bd (lp_X4_countMet_4 N a1 N (0 : Int32) (0 : Int32) σ) fun o4 σl4 =>
    some (o4, σl4)
def lp_X4_countGenera_4 (N : Nat) : Nat → Int32 → Int32 → fS → Option (Int32 × fS)
  | 0, _, _, _ => none
  | n4 + 1, x1, x2, σ =>
    if (σ.1 9 7) ≤ x2 then (
      some (x1, σ)
    ) else (
      if (56 : Int32) ≤ x2 then (
        some (x1, σ)
      ) else (
        Gd (fin x2 56) (
          if (σ.1 13 (x2).toNatClampNeg) = x2 then (
            Lt (x1 + (1 : Int32)) fun v35 =>
              lp_X4_countGenera_4 N n4 v35 (x2 + (1 : Int32)) σ
          ) else (
            Lt (x1 + (0 : Int32)) fun v35 =>
              lp_X4_countGenera_4 N n4 v35 (x2 + (1 : Int32)) σ
          )
        )
      )
    )
def g_X4_countGenera (N : Nat)  (σ : fS) : Option (Int32 × fS) :=
  Bd (lp_X4_countGenera_4 N N (0 : Int32) (0 : Int32) σ) fun o4 σl4 =>
    some (o4, σl4)
def g_J9_min_7cf53 (N : Nat) (a0 : Int32) (a1 : Int32) (σ : fS) : Option (Int32 × fS) :=
  if a1 < a0 then (
    some (a1, σ)
  ) else (
    some (a0, σ)
  )
def g_X5_keep (N : Nat) (a1 : Int32) (k2 : Nat) (σ : fS) : Option fS :=
  Bd (g_J9_floorMod_7cf53 N (σ.1 6 2) (12 : Int32) σ) fun r6 σ6 =>
    Gd (fin r6 12) (
    Lt (sI σ6 7 (r6).toNatClampNeg a1) fun σ16 =>
      Gd (fin r6 12) (
        Bv (g_X0_copy N (er 8 (r6).toNatClampNeg) k2 σ16) fun σ24 =>
          Lt (sI σ24 6 2 (iR (r6 + (1 : Int32)) (12 : Int32))) fun σ34 =>
            Bd (g_J9_min_7cf53 N ((σ34.1 6 3) + (1 : Int32)) (12 : Int32) σ34) fun r46 σ46 =>
              Lt (sI σ46 6 3 r46) fun σ49 =>
                Lt (sI σ49 6 4 ((σ49.1 6 4) + (1 : Int32))) fun σ59 =>
                  some σ59
      )
    )
def g_X5_takeBack (N : Nat) (k1 : Nat) (σ : fS) : Option (Int32 × fS) :=
  if 0 < (σ.1 6 3) then (
    Bd (g_J9_floorMod_7cf53 N ((σ.1 6 2) - (1 : Int32)) (12 : Int32) σ) fun r17 σ17 =>
      Gd (fin r17 12) (
        Bv (g_X0_copy N k1 (er 8 (r17).toNatClampNeg) σ17) fun σ28 =>
          Lt (sI σ28 6 2 r17) fun σ33 =>
            Lt (sI σ33 6 3 ((σ33.1 6 3) - (1 : Int32))) fun σ43 =>
              Lt (sI σ43 6 5 ((σ43.1 6 5) + (1 : Int32))) fun σ53 =>
                Gd (fin r17 12) (
                  some ((σ53.1 7 (r17).toNatClampNeg), σ53)
                )
      )
  ) else (
    some ((-1 : Int32), σ)
  )
def g_X6_unsquareBits (N : Nat) (a1 : Int32) (σ : fS) : Option (Int32 × fS) :=
  Bv (g_X6_start N σ) fun σ1 =>
    Bv (g_X6_add N a1 σ1) fun σ6 =>
      Bv (g_X6_add N (1 : Int32) σ6) fun σ11 =>
        Bd (g_X6_bars N σ11) fun r15 σ15 =>
          some (r15, σ15)
def g_X7_letter (N : Nat) (a1 : Int32) (σ : fS) : Option (Int32 × fS) :=
  if a1 < (32 : Int32) then (
    some ((-102 : Int32), σ)
  ) else (
    if a1 ≤ (126 : Int32) then (
      Bd (g_X3_write N a1 σ) fun r20 σ20 =>
        if r20 = 0 then (
          some ((-104 : Int32), σ20)
        ) else (
          some ((σ20.1 1 1), σ20)
        )
    ) else (
      some ((-102 : Int32), σ)
    )
  )
def g_X7_blank (N : Nat)  (σ : fS) : Option (Int32 × fS) :=
  Lt (σ.1 1 1) fun v7 =>
    Lt (sI σ 1 1 (0 : Int32)) fun σ13 =>
      some (v7, σ13)
def g_X7_fault (N : Nat)  (σ : fS) : Option (Int32 × fS) :=
  Bd (g_X3_readInto N 4 σ) fun r8 σ8 =>
    some (r8, σ8)
def g_X7_isShelf (N : Nat) (a0 : Int32) (σ : fS) : Option (Int32 × fS) :=
  if a0 < 0 then (
    some ((0 : Int32), σ)
  ) else (
    if (8 : Int32) ≤ a0 then (
      some ((0 : Int32), σ)
    ) else (
      some ((1 : Int32), σ)
    )
  )
def g_X7_shelveDraft (N : Nat) (a1 : Int32) (σ : fS) : Option fS :=
  Bd (g_X7_isShelf N a1 σ) fun r1 σ1 =>
    if r1 = 0 then (
      some σ1
    ) else (
      Bv (g_X0_settle N 4 σ1) fun σ16 =>
        Gd (fin a1 8) (
          Bv (g_X5_keep N a1 (er 3 (a1).toNatClampNeg) σ16) fun σ30 =>
            Gd (fin a1 8) (
              Bv (g_X0_copy N (er 3 (a1).toNatClampNeg) 4 σ30) fun σ43 =>
                some σ43
            )
        )
    )
def g_X7_put (N : Nat) (a1 : Int32) (σ : fS) : Option (Int32 × fS) :=
  Bd (g_X7_isShelf N a1 σ) fun r1 σ1 =>
    if r1 = 0 then (
      some ((-101 : Int32), σ1)
    ) else (
      Bd (g_X3_readInto N 4 σ1) fun r18 σ18 =>
        if r18 < (σ18.1 1 1) then (
          some ((-103 : Int32), σ18)
        ) else (
          Bd (g_X3_endsInDigit N σ18) fun r35 σ35 =>
            if r35 = 0 then (
              some ((-103 : Int32), σ35)
            ) else (
              Lt (sI σ35 1 1 (0 : Int32)) fun σ49 =>
                Bv (g_X7_shelveDraft N a1 σ49) fun σ54 =>
                  Gd (fin a1 8) (
                    some ((σ54.1 (er 3 (a1).toNatClampNeg) 1), σ54)
                  )
            )
        )
    )
def g_X7_classOf (N : Nat) (a1 : Int32) (σ : fS) : Option (Int32 × fS) :=
  Bd (g_X2_isNumber N a1 σ) fun r1 σ1 =>
    if r1 = 0 then (
      some ((-102 : Int32), σ1)
    ) else (
      Bd (g_X2_kindOf N a1 σ1) fun r8 σ8 =>
        some (r8, σ8)
    )
def g_X7_isKind (N : Nat) (a0 : Int32) (σ : fS) : Option (Int32 × fS) :=
  if a0 < 0 then (
    some ((0 : Int32), σ)
  ) else (
    if (128 : Int32) ≤ a0 then (
      some ((0 : Int32), σ)
    ) else (
      some ((1 : Int32), σ)
    )
  )
def g_X7_core (N : Nat) (a1 : Int32) (σ : fS) : Option (Int32 × fS) :=
  Bd (g_X7_isKind N a1 σ) fun r1 σ1 =>
    if r1 = 0 then (
      some ((-102 : Int32), σ1)
    ) else (
      Bd (g_X2_coreOf N a1 σ1) fun r8 σ8 =>
        some (r8, σ8)
    )
def g_X7_isPlace (N : Nat) (a0 : Int32) (σ : fS) : Option (Int32 × fS) :=
  if a0 < 0 then (
    some ((0 : Int32), σ)
  ) else (
    if (7 : Int32) ≤ a0 then (
      some ((0 : Int32), σ)
    ) else (
      some ((1 : Int32), σ)
    )
  )
def g_X7_symbol (N : Nat) (a1 : Int32) (a2 : Int32) (a3 : Int32) (σ : fS) : Option (Int32 × fS) :=
  Bd (g_X7_isPlace N a3 σ) fun r1 σ1 =>
    if r1 = 0 then (
      some ((-101 : Int32), σ1)
    ) else (
      Bd (g_X7_isKind N a1 σ1) fun r11 σ11 =>
        if r11 = 0 then (
          some ((-102 : Int32), σ11)
        ) else (
          Bd (g_X7_isKind N a2 σ11) fun r18 σ18 =>
            if r18 = 0 then (
              some ((-102 : Int32), σ18)
            ) else (
              Bd (g_X6_symbolBits N a1 a2 σ18) fun r33 σ33 =>
                if ((r33 >>> (a3 &&& (31 : Int32))) &&& (1 : Int32)) = 0 then (
                  some ((1 : Int32), σ33)
                ) else (
                  some ((-1 : Int32), σ33)
                )
            )
        )
    )
def g_X7_square (N : Nat) (a1 : Int32) (a2 : Int32) (σ : fS) : Option (Int32 × fS) :=
  Bd (g_X7_isPlace N a2 σ) fun r1 σ1 =>
    if r1 = 0 then (
      some ((-101 : Int32), σ1)
    ) else (
      Bd (g_X7_isKind N a1 σ1) fun r11 σ11 =>
        if r11 = 0 then (
          some ((-102 : Int32), σ11)
        ) else (
          Bd (g_X6_unsquareBits N a1 σ11) fun r25 σ25 =>
            if ((r25 >>> (a2 &&& (31 : Int32))) &&& (1 : Int32)) = 0 then (
              some ((1 : Int32), σ25)
            ) else (
              some ((0 : Int32), σ25)
            )
        )
    )
def g_X7_hasTerm (N : Nat) (a1 : Int32) (a2 : Int32) (σ : fS) : Option (Int32 × fS) :=
  Bd (g_X7_isShelf N a1 σ) fun r1 σ1 =>
    if r1 = 0 then (
      some ((0 : Int32), σ1)
    ) else (
      if a2 < 0 then (
        some ((0 : Int32), σ1)
      ) else (
        Gd (fin a1 8) (
          if (σ1.1 (er 3 (a1).toNatClampNeg) 1) ≤ a2 then (
            some ((0 : Int32), σ1)
          ) else (
            some ((1 : Int32), σ1)
          )
        )
      )
    )
def g_X7_at (N : Nat) (a1 : Int32) (a2 : Int32) (σ : fS) : Option (Int32 × fS) :=
  Bd (g_X7_hasTerm N a1 a2 σ) fun r3 σ3 =>
    if r3 = 0 then (
      some ((-101 : Int32), σ3)
    ) else (
      Gd (fin a1 8) (
        Bd (g_X0_kindAt N (er 3 (a1).toNatClampNeg) a2 σ3) fun r19 σ19 =>
          Bd (g_X2_coreOf N r19 σ19) fun r22 σ22 =>
            some (r22, σ22)
      )
    )
def g_X7_hasForm (N : Nat) (a1 : Int32) (σ : fS) : Option (Int32 × fS) :=
  Bd (g_X7_isShelf N a1 σ) fun r1 σ1 =>
    if r1 = 0 then (
      some ((0 : Int32), σ1)
    ) else (
      Gd (fin a1 8) (
        if (σ1.1 (er 3 (a1).toNatClampNeg) 1) ≤ 0 then (
          some ((0 : Int32), σ1)
        ) else (
          some ((1 : Int32), σ1)
        )
      )
    )
def lp_X7_leastLike_2 (N : Nat) (p1 : Int32) : Nat → Int32 → fS → Option ((Int32 × fS) ⊕ (Unit × fS))
  | 0, _, _ => none
  | n2 + 1, x2, σ =>
    if p1 ≤ x2 then (
      some (.inr ((), σ))
    ) else (
      if (8 : Int32) ≤ p1 then (
        some (.inr ((), σ))
      ) else (
        Bd (g_X7_hasForm N x2 σ) fun r15 σ15 =>
          if r15 = 0 then (
            lp_X7_leastLike_2 N p1 n2 (x2 + (1 : Int32)) σ15
          ) else (
            Gd (fin x2 8) (
              Gd (fin p1 8) (
                Bd (g_X0_isLike N (er 3 (x2).toNatClampNeg) (er 3 (p1).toNatClampNeg) σ15) fun r33 σ33 =>
                  if r33 = 0 then (
                    lp_X7_leastLike_2 N p1 n2 (x2 + (1 : Int32)) σ33
                  ) else (
                    some (.inl (x2, σ33))
                  )
              )
            )
          )
      )
    )
def g_X7_leastLike (N : Nat) (a1 : Int32) (σ : fS) : Option (Int32 × fS) :=
  Bs (lp_X7_leastLike_2 N a1 N (0 : Int32) σ) fun o2 σl2 =>
    some (a1, σl2)
def g_X7_about (N : Nat) (a1 : Int32) (a2 : Int32) (σ : fS) : Option (Int32 × fS) :=
  Bd (g_X7_hasForm N a1 σ) fun r2 σ2 =>
    if r2 = 0 then (
      some ((-101 : Int32), σ2)
    ) else (
      if a2 < 0 then (
        some ((-102 : Int32), σ2)
      ) else (
        if a2 ≤ (8 : Int32) then (
          Gd (fin a1 8) (
            if a2 = 0 then (
              some ((σ2.1 (er 3 (a1).toNatClampNeg) 1), σ2)
            ) else (
              if a2 = 1 then (
                Bd (g_X0_countAbove N (er 3 (a1).toNatClampNeg) σ2) fun r86 σ86 =>
                  some (r86, σ86)
              ) else (
                if a2 = 2 then (
                  Bd (g_X0_det N (er 3 (a1).toNatClampNeg) σ2) fun r91 σ91 =>
                    some (r91, σ91)
                ) else (
                  if a2 = 3 then (
                    some ((σ2.1 (er 3 (a1).toNatClampNeg) 2), σ2)
                  ) else (
                    if a2 = 4 then (
                      some ((σ2.1 (er 3 (a1).toNatClampNeg) 3), σ2)
                    ) else (
                      if a2 = 5 then (
                        Bd (g_X0_planes N (er 3 (a1).toNatClampNeg) σ2) fun r106 σ106 =>
                          some (r106, σ106)
                      ) else (
                        if a2 = 6 then (
                          Bd (g_X0_restDet N (er 3 (a1).toNatClampNeg) σ2) fun r111 σ111 =>
                            some (r111, σ111)
                        ) else (
                          if a2 = 7 then (
                            Bd (g_X0_restHasse N (er 3 (a1).toNatClampNeg) σ2) fun r120 σ120 =>
                              some (r120, σ120)
                          ) else (
                            Bd (g_X7_leastLike N a1 σ2) fun r126 σ126 =>
                              some (r126, σ126)
                          )
                        )
                      )
                    )
                  )
                )
              )
            )
          )
        ) else (
          some ((-102 : Int32), σ2)
        )
      )
    )
def g_X7_unlikeBits (N : Nat) (k1 : Nat) (k2 : Nat) (σ : fS) : Option (Int32 × fS) :=
  if (σ.1 k1 1) = (σ.1 k2 1) then (
    Bd (g_X0_countAbove N k1 σ) fun r15 σ15 =>
      Bd (g_X0_countAbove N k2 σ15) fun r19 σ19 =>
        Bd (
          if r15 = r19 then (
            some ((0 : Int32), σ19)
          ) else (
            some ((1 : Int32), σ19)
          )
        ) fun o22 σj22 =>
          Bd (g_X0_det N k1 σj22) fun r45 σ45 =>
            Bd (g_X0_det N k2 σ45) fun r49 σ49 =>
              Bd (g_X6_unsquareBits N (r45 ^^^ r49) σ49) fun r53 σ53 =>
                Lt (((σj22.1 k1 2) ^^^ (σj22.1 k2 2)) ||| r53) fun v57 =>
                  some ((o22 ||| (v57 &&& (-2 : Int32))), σ53)
  ) else (
    some ((127 : Int32), σ)
  )
def g_X7_like (N : Nat) (a1 : Int32) (a2 : Int32) (σ : fS) : Option (Int32 × fS) :=
  Bd (g_X7_hasForm N a1 σ) fun r2 σ2 =>
    if r2 = 0 then (
      some ((-101 : Int32), σ2)
    ) else (
      Bd (g_X7_hasForm N a2 σ2) fun r10 σ10 =>
        if r10 = 0 then (
          some ((-101 : Int32), σ10)
        ) else (
          Gd (fin a1 8) (
            Gd (fin a2 8) (
              Bd (g_X7_unlikeBits N (er 3 (a1).toNatClampNeg) (er 3 (a2).toNatClampNeg) σ10) fun r32 σ32 =>
                some (r32, σ32)
            )
          )
        )
    )
def g_X7_startAgainst (N : Nat) (k1 : Nat) (a2 : Int32) (σ : fS) : Option fS :=
  Bv (g_X6_start N σ) fun σ4 =>
    Bv (g_X6_addAll N k1 σ4) fun σ12 =>
      Bd (g_X2_kindOf N a2 σ12) fun r20 σ20 =>
        Bv (g_X6_add N (r20 ^^^ (1 : Int32)) σ20) fun σ25 =>
          some σ25
def g_X7_meets (N : Nat) (a1 : Int32) (a2 : Int32) (σ : fS) : Option (Int32 × fS) :=
  Bd (g_X7_hasForm N a1 σ) fun r2 σ2 =>
    if r2 = 0 then (
      some ((-101 : Int32), σ2)
    ) else (
      Bd (g_X2_isNumber N a2 σ2) fun r12 σ12 =>
        if r12 = 0 then (
          some ((-102 : Int32), σ12)
        ) else (
          Gd (fin a1 8) (
            Bv (g_X7_startAgainst N (er 3 (a1).toNatClampNeg) a2 σ12) fun σ29 =>
              Bd (g_X6_bars N σ29) fun r36 σ36 =>
                some (r36, σ36)
          )
        )
    )
def g_X7_row (N : Nat) (a1 : Int32) (a2 : Int32) (σ : fS) : Option (Int32 × fS) :=
  Bd (g_X7_hasTerm N a1 a2 σ) fun r3 σ3 =>
    if r3 = 0 then (
      some ((-101 : Int32), σ3)
    ) else (
      Bv (g_X6_start N σ3) fun σ16 =>
        Gd (fin a1 8) (
          Bv (g_X6_addAll N (er 3 (a1).toNatClampNeg) σ16) fun σ29 =>
            Bd (g_X1_find N (15 : Int32) (0 : Int32) σ29) fun r39 σ39 =>
              if r39 = 0 then (
                some ((-1 : Int32), σ39)
              ) else (
                Bd (g_X1_numberAt N a2 σ39) fun r50 σ50 =>
                  some (r50, σ50)
              )
        )
    )
def g_X7_way (N : Nat) (a1 : Int32) (a2 : Int32) (a3 : Int32) (σ : fS) : Option (Int32 × fS) :=
  Bd (g_X7_hasForm N a1 σ) fun r2 σ2 =>
    if r2 = 0 then (
      some ((-101 : Int32), σ2)
    ) else (
      if a3 < 0 then (
        some ((-101 : Int32), σ2)
      ) else (
        Gd (fin a1 8) (
          if a3 ≤ (σ2.1 (er 3 (a1).toNatClampNeg) 1) then (
            Bd (g_X2_isNumber N a2 σ2) fun r29 σ29 =>
              if r29 = 0 then (
                some ((-102 : Int32), σ29)
              ) else (
                Gd (fin a1 8) (
                  Bv (g_X7_startAgainst N (er 3 (a1).toNatClampNeg) a2 σ29) fun σ46 =>
                    Bd (g_X1_find N (9 : Int32) (1 : Int32) σ46) fun r56 σ56 =>
                      if r56 = 0 then (
                        some ((-1 : Int32), σ56)
                      ) else (
                        Bd (g_X1_numberAt N a3 σ56) fun r67 σ67 =>
                          some (r67, σ67)
                      )
                )
              )
          ) else (
            some ((-101 : Int32), σ2)
          )
        )
      )
    )
def g_X7_clear (N : Nat) (a1 : Int32) (σ : fS) : Option (Int32 × fS) :=
  Bd (g_X7_hasForm N a1 σ) fun r2 σ2 =>
    if r2 = 0 then (
      some ((-101 : Int32), σ2)
    ) else (
      Gd (fin a1 8) (
        Lt (σ2.1 (er 3 (a1).toNatClampNeg) 1) fun v20 =>
          Bv (g_X0_empty N 4 σ2) fun σ25 =>
            Bv (g_X7_shelveDraft N a1 σ25) fun σ30 =>
              some (v20, σ30)
      )
    )
def g_X7_join (N : Nat) (a1 : Int32) (a2 : Int32) (a3 : Int32) (σ : fS) : Option (Int32 × fS) :=
  Bd (g_X7_hasForm N a1 σ) fun r2 σ2 =>
    if r2 = 0 then (
      some ((-101 : Int32), σ2)
    ) else (
      Bd (g_X7_hasForm N a2 σ2) fun r10 σ10 =>
        if r10 = 0 then (
          some ((-101 : Int32), σ10)
        ) else (
          Bd (g_X7_isShelf N a3 σ10) fun r17 σ17 =>
            if r17 = 0 then (
              some ((-101 : Int32), σ17)
            ) else (
              Gd (fin a1 8) (
                Gd (fin a2 8) (
                  if ((σ17.1 (er 3 (a1).toNatClampNeg) 1) + (σ17.1 (er 3 (a2).toNatClampNeg) 1)) ≤ (4 : Int32) then (
                    Gd (fin a1 8) (
                      Bv (g_X0_copy N 4 (er 3 (a1).toNatClampNeg) σ17) fun σ62 =>
                        Gd (fin a2 8) (
                          Bv (g_X0_addTimes N 4 (er 3 (a2).toNatClampNeg) (0 : Int32) σ62) fun σ76 =>
                            Bv (g_X7_shelveDraft N a3 σ76) fun σ81 =>
                              Gd (fin a3 8) (
                                some ((σ81.1 (er 3 (a3).toNatClampNeg) 1), σ81)
                              )
                        )
                    )
                  ) else (
                    some ((-104 : Int32), σ17)
                  )
                )
              )
            )
        )
    )
def lp_X7_times_66 (N : Nat) (p2 : Int32) (p3 : Int32) (q4 : Nat) : Nat → Int32 → fS → Option fS
  | 0, _, _ => none
  | n66 + 1, x5, σ =>
    if (σ.1 q4 1) ≤ x5 then (
      some σ
    ) else (
      Gd (fin p2 8) (
        Bd (g_X0_kindAt N q4 x5 σ) fun r90 σ90 =>
          Bv (g_X0_addTimes N 4 (er 3 (p2).toNatClampNeg) r90 σ90) fun σ93 =>
            lp_X7_times_66 N p2 p3 q4 n66 (x5 + (1 : Int32)) σ93
      )
    )
def g_X7_times (N : Nat) (a1 : Int32) (a2 : Int32) (a3 : Int32) (σ : fS) : Option (Int32 × fS) :=
  Bd (g_X7_hasForm N a1 σ) fun r2 σ2 =>
    if r2 = 0 then (
      some ((-101 : Int32), σ2)
    ) else (
      Bd (g_X7_hasForm N a2 σ2) fun r10 σ10 =>
        if r10 = 0 then (
          some ((-101 : Int32), σ10)
        ) else (
          Bd (g_X7_isShelf N a3 σ10) fun r17 σ17 =>
            if r17 = 0 then (
              some ((-101 : Int32), σ17)
            ) else (
              Gd (fin a1 8) (
                Gd (fin a2 8) (
                  if ((σ17.1 (er 3 (a1).toNatClampNeg) 1) * (σ17.1 (er 3 (a2).toNatClampNeg) 1)) ≤ (4 : Int32) then (
                    Bv (g_X0_empty N 4 σ17) fun σ60 =>
                      Bv (lp_X7_times_66 N a2 a3 (er 3 (a1).toNatClampNeg) N (0 : Int32) σ60) fun σl66 =>
                        Bv (g_X7_shelveDraft N a3 σl66) fun σ104 =>
                          Gd (fin a3 8) (
                            some ((σ104.1 (er 3 (a3).toNatClampNeg) 1), σ104)
                          )
                  ) else (
                    some ((-104 : Int32), σ17)
                  )
                )
              )
            )
        )
    )
def g_X7_scale (N : Nat) (a1 : Int32) (a2 : Int32) (σ : fS) : Option (Int32 × fS) :=
  Bd (g_X7_hasForm N a1 σ) fun r2 σ2 =>
    if r2 = 0 then (
      some ((-101 : Int32), σ2)
    ) else (
      Bd (g_X2_isNumber N a2 σ2) fun r12 σ12 =>
        if r12 = 0 then (
          some ((-102 : Int32), σ12)
        ) else (
          Bv (g_X0_empty N 4 σ12) fun σ25 =>
            Gd (fin a1 8) (
              Bd (g_X2_kindOf N a2 σ25) fun r39 σ39 =>
                Bv (g_X0_addTimes N 4 (er 3 (a1).toNatClampNeg) r39 σ39) fun σ42 =>
                  Bv (g_X7_shelveDraft N a1 σ42) fun σ47 =>
                    Gd (fin a1 8) (
                      Bd (g_X0_det N (er 3 (a1).toNatClampNeg) σ47) fun r56 σ56 =>
                        some (r56, σ56)
                    )
            )
        )
    )
def g_X7_turn (N : Nat) (a1 : Int32) (a2 : Int32) (a3 : Int32) (a4 : Int32) (a5 : Int32) (σ : fS) : Option (Int32 × fS) :=
  Bd (g_X7_hasTerm N a1 a2 σ) fun r3 σ3 =>
    if r3 = 0 then (
      some ((-101 : Int32), σ3)
    ) else (
      Bd (g_X7_hasTerm N a1 a3 σ3) fun r12 σ12 =>
        if r12 = 0 then (
          some ((-101 : Int32), σ12)
        ) else (
          if a4 < 0 then (
            some ((-102 : Int32), σ12)
          ) else (
            if (15 : Int32) < a4 then (
              some ((-102 : Int32), σ12)
            ) else (
              if a5 < 0 then (
                some ((-102 : Int32), σ12)
              ) else (
                if a5 ≤ (15 : Int32) then (
                  Gd (fin a1 8) (
                    Bd (g_X0_kindAt N (er 3 (a1).toNatClampNeg) a2 σ12) fun r55 σ55 =>
                      Gd (fin a1 8) (
                        Bd (g_X0_kindAt N (er 3 (a1).toNatClampNeg) a3 σ55) fun r67 σ67 =>
                          Bd (g_X2_coreOf N r55 σ67) fun r74 σ74 =>
                            Bd (g_X2_coreOf N r67 σ74) fun r85 σ85 =>
                              Lt (((r74 * a4) * a4) + ((r85 * a5) * a5)) fun v95 =>
                                if a2 = a3 then (
                                  some ((-103 : Int32), σ85)
                                ) else (
                                  if v95 = 0 then (
                                    some ((-103 : Int32), σ85)
                                  ) else (
                                    Bd (g_X2_isSquareTimesCore N v95 σ85) fun r109 σ109 =>
                                      if r109 = 0 then (
                                        some ((-103 : Int32), σ109)
                                      ) else (
                                        Bd (g_X2_kindOf N v95 σ109) fun r120 σ120 =>
                                          Gd (fin a1 8) (
                                            Bv (g_X0_copy N 4 (er 3 (a1).toNatClampNeg) σ120) fun σ135 =>
                                              Bv (g_X0_change N 4 a2 r120 σ135) fun σ145 =>
                                                Bv (g_X0_change N 4 a3 ((r55 ^^^ r67) ^^^ r120) σ145) fun σ161 =>
                                                  Bv (g_X7_shelveDraft N a1 σ161) fun σ166 =>
                                                    Bd (g_X2_coreOf N r120 σ166) fun r171 σ171 =>
                                                      some (r171, σ171)
                                          )
                                      )
                                  )
                                )
                      )
                  )
                ) else (
                  some ((-102 : Int32), σ12)
                )
              )
            )
          )
        )
    )
def lp_X7_drop_40 (N : Nat) (p1 : Int32) (p2 : Int32) (q3 : Nat) : Nat → Int32 → fS → Option fS
  | 0, _, _ => none
  | n40 + 1, x4, σ =>
    if (σ.1 q3 1) ≤ x4 then (
      some σ
    ) else (
      if x4 = p2 then (
        lp_X7_drop_40 N p1 p2 q3 n40 (x4 + (1 : Int32)) σ
      ) else (
        Bd (g_X0_kindAt N q3 x4 σ) fun r62 σ62 =>
          Bv (g_X0_add N 4 r62 σ62) fun σ65 =>
            lp_X7_drop_40 N p1 p2 q3 n40 (x4 + (1 : Int32)) σ65
      )
    )
def g_X7_drop (N : Nat) (a1 : Int32) (a2 : Int32) (σ : fS) : Option (Int32 × fS) :=
  Bd (g_X7_hasTerm N a1 a2 σ) fun r3 σ3 =>
    if r3 = 0 then (
      some ((-101 : Int32), σ3)
    ) else (
      Gd (fin a1 8) (
        if (σ3.1 (er 3 (a1).toNatClampNeg) 1) = (1 : Int32) then (
          some ((-103 : Int32), σ3)
        ) else (
          Bv (g_X0_empty N 4 σ3) fun σ34 =>
            Bv (lp_X7_drop_40 N a1 a2 (er 3 (a1).toNatClampNeg) N (0 : Int32) σ34) fun σl40 =>
              Bv (g_X7_shelveDraft N a1 σl40) fun σ76 =>
                some ((σ76.1 (er 3 (a1).toNatClampNeg) 1), σ76)
        )
      )
    )
def g_X7_undo (N : Nat)  (σ : fS) : Option (Int32 × fS) :=
  if (σ.1 6 3) = 0 then (
    some ((-103 : Int32), σ)
  ) else (
    Bd (g_X5_takeBack N 4 σ) fun r21 σ21 =>
      Bd (g_X7_isShelf N r21 σ21) fun r26 σ26 =>
        if r26 = 0 then (
          some ((-103 : Int32), σ26)
        ) else (
          Gd (fin r21 8) (
            Bv (g_X0_copy N (er 3 (r21).toNatClampNeg) 4 σ26) fun σ45 =>
              some (r21, σ45)
          )
        )
  )
def g_X7_pairs (N : Nat) (a1 : Int32) (σ : fS) : Option (Int32 × fS) :=
  if a1 < (3 : Int32) then (
    some ((-102 : Int32), σ)
  ) else (
    if (160 : Int32) < a1 then (
      some ((-102 : Int32), σ)
    ) else (
      if (iR a1 (4 : Int32)) = (1 : Int32) then (
        some ((-102 : Int32), σ)
      ) else (
        if (iR a1 (4 : Int32)) = (2 : Int32) then (
          some ((-102 : Int32), σ)
        ) else (
          Bv (g_X4_open N a1 σ) fun σ34 =>
            some ((σ34.1 9 7), σ34)
        )
      )
    )
  )
def g_X7_pair (N : Nat) (a1 : Int32) (a2 : Int32) (σ : fS) : Option (Int32 × fS) :=
  Bd (g_X4_has N a1 σ) fun r5 σ5 =>
    if r5 = 0 then (
      some ((-101 : Int32), σ5)
    ) else (
      if a2 < 0 then (
        some ((-102 : Int32), σ5)
      ) else (
        if a2 ≤ (4 : Int32) then (
          if a2 = 0 then (
            Gd (fin a1 56) (
              some ((σ5.1 10 (a1).toNatClampNeg), σ5)
            )
          ) else (
            if a2 = 1 then (
              Gd (fin a1 56) (
                some ((σ5.1 11 (a1).toNatClampNeg), σ5)
              )
            ) else (
              if a2 = 2 then (
                Gd (fin a1 56) (
                  some ((σ5.1 12 (a1).toNatClampNeg), σ5)
                )
              ) else (
                if a2 = 3 then (
                  Gd (fin a1 56) (
                    some ((σ5.1 13 (a1).toNatClampNeg), σ5)
                  )
                ) else (
                  Bd (g_X4_countMet N a1 σ5) fun r101 σ101 =>
                    some (r101, σ101)
                )
              )
            )
          )
        ) else (
          some ((-102 : Int32), σ5)
        )
      )
    )
def g_X7_met (N : Nat) (a1 : Int32) (a2 : Int32) (σ : fS) : Option (Int32 × fS) :=
  Bd (g_X4_has N a1 σ) fun r5 σ5 =>
    if r5 = 0 then (
      some ((-101 : Int32), σ5)
    ) else (
      if a2 < 0 then (
        some ((-102 : Int32), σ5)
      ) else (
        if a2 < (σ5.1 9 6) then (
          Bd (g_X4_isMet N a1 a2 σ5) fun r38 σ38 =>
            if r38 = 0 then (
              some ((0 : Int32), σ38)
            ) else (
              some ((1 : Int32), σ38)
            )
        ) else (
          some ((-102 : Int32), σ5)
        )
      )
    )
def g_X7_lay (N : Nat) (a1 : Int32) (a2 : Int32) (σ : fS) : Option (Int32 × fS) :=
  Bd (g_X4_has N a1 σ) fun r5 σ5 =>
    if r5 = 0 then (
      some ((-101 : Int32), σ5)
    ) else (
      Bd (g_X7_isShelf N a2 σ5) fun r12 σ12 =>
        if r12 = 0 then (
          some ((-101 : Int32), σ12)
        ) else (
          Bd (g_X2_roughPart N (σ12.1 9 6) σ12) fun r28 σ28 =>
            if r28 = (1 : Int32) then (
              Gd (fin a1 56) (
                Lt (σ28.1 10 (a1).toNatClampNeg) fun v47 =>
                  Bv (g_X0_empty N 4 σ28) fun σ52 =>
                    Bd (g_X2_kindOf N v47 σ52) fun r60 σ60 =>
                      Bv (g_X0_add N 4 r60 σ60) fun σ63 =>
                        Bd (g_X2_kindOf N (v47 * (σ63.1 9 6)) σ63) fun r79 σ79 =>
                          Bv (g_X0_add N 4 r79 σ79) fun σ82 =>
                            Bv (g_X7_shelveDraft N a2 σ82) fun σ87 =>
                              Gd (fin a2 8) (
                                Bd (g_X0_det N (er 3 (a2).toNatClampNeg) σ87) fun r96 σ96 =>
                                  some (r96, σ96)
                              )
              )
            ) else (
              some ((-103 : Int32), σ28)
            )
        )
    )
def lp_X7_countForms_4 (N : Nat) : Nat → Int32 → Int32 → fS → Option (Int32 × fS)
  | 0, _, _, _ => none
  | n4 + 1, x1, x2, σ =>
    if (8 : Int32) ≤ x2 then (
      some (x1, σ)
    ) else (
      Bd (g_X7_hasForm N x2 σ) fun r13 σ13 =>
        if r13 = 0 then (
          Lt (x1 + (0 : Int32)) fun v25 =>
            lp_X7_countForms_4 N n4 v25 (x2 + (1 : Int32)) σ13
        ) else (
          Lt (x1 + (1 : Int32)) fun v25 =>
            lp_X7_countForms_4 N n4 v25 (x2 + (1 : Int32)) σ13
        )
    )
def g_X7_countForms (N : Nat)  (σ : fS) : Option (Int32 × fS) :=
  Bd (lp_X7_countForms_4 N N (0 : Int32) (0 : Int32) σ) fun o4 σl4 =>
    some (o4, σl4)
def lp_X7_countTerms_4 (N : Nat) : Nat → Int32 → Int32 → fS → Option (Int32 × fS)
  | 0, _, _, _ => none
  | n4 + 1, x1, x2, σ =>
    if (8 : Int32) ≤ x2 then (
      some (x1, σ)
    ) else (
      Gd (fin x2 8) (
        Lt (x1 + (σ.1 (er 3 (x2).toNatClampNeg) 1)) fun v21 =>
          lp_X7_countTerms_4 N n4 v21 (x2 + (1 : Int32)) σ
      )
    )
def g_X7_countTerms (N : Nat)  (σ : fS) : Option (Int32 × fS) :=
  Bd (lp_X7_countTerms_4 N N (0 : Int32) (0 : Int32) σ) fun o4 σl4 =>
    some (o4, σl4)
def lp_X7_countUnlike_4 (N : Nat) : Nat → Int32 → Int32 → fS → Option (Int32 × fS)
  | 0, _, _, _ => none
  | n4 + 1, x1, x2, σ =>
    if (8 : Int32) ≤ x2 then (
      some (x1, σ)
    ) else (
      Bd (g_X7_hasForm N x2 σ) fun r13 σ13 =>
        if r13 = 0 then (
          Lt (x1 + (0 : Int32)) fun v34 =>
            lp_X7_countUnlike_4 N n4 v34 (x2 + (1 : Int32)) σ13
        ) else (
          Bd (g_X7_leastLike N x2 σ13) fun r21 σ21 =>
            if r21 = x2 then (
              Lt (x1 + (1 : Int32)) fun v34 =>
                lp_X7_countUnlike_4 N n4 v34 (x2 + (1 : Int32)) σ21
            ) else (
              Lt (x1 + (0 : Int32)) fun v34 =>
                lp_X7_countUnlike_4 N n4 v34 (x2 + (1 : Int32)) σ21
            )
        )
    )
def g_X7_countUnlike (N : Nat)  (σ : fS) : Option (Int32 × fS) :=
  Bd (lp_X7_countUnlike_4 N N (0 : Int32) (0 : Int32) σ) fun o4 σl4 =>
    some (o4, σl4)
def g_X7_count (N : Nat) (a1 : Int32) (σ : fS) : Option (Int32 × fS) :=
  if a1 = 0 then (
    Bd (g_X7_countForms N σ) fun r57 σ57 =>
      some (r57, σ57)
  ) else (
    if a1 = 1 then (
      Bd (g_X7_countTerms N σ) fun r62 σ62 =>
        some (r62, σ62)
    ) else (
      if a1 = 2 then (
        Bd (g_X7_countUnlike N σ) fun r67 σ67 =>
          some (r67, σ67)
      ) else (
        if a1 = 3 then (
          some ((σ.1 6 3), σ)
        ) else (
          if a1 = 4 then (
            some ((σ.1 1 1), σ)
          ) else (
            if a1 = 5 then (
              some ((σ.1 9 6), σ)
            ) else (
              if a1 = 6 then (
                some ((σ.1 9 7), σ)
              ) else (
                if a1 = 7 then (
                  Bd (g_X4_countGenera N σ) fun r107 σ107 =>
                    some (r107, σ107)
                ) else (
                  if a1 = 8 then (
                    some ((σ.1 6 4), σ)
                  ) else (
                    if a1 = 9 then (
                      some ((σ.1 6 5), σ)
                    ) else (
                      some ((-102 : Int32), σ)
                    )
                  )
                )
              )
            )
          )
        )
      )
    )
  )
def g_X7_mix (N : Nat) (a0 : Int64) (a2 : Int32) (σ : fS) : Option (Int64 × fS) :=
  some ((((31 : Int64) * a0) + (a2).toInt64), σ)
def lp_X7_digest_32 (N : Nat) (p3 : Int32) : Nat → Int64 → Int32 → fS → Option (Int64 × fS)
  | 0, _, _, _ => none
  | n32 + 1, x1, x4, σ =>
    if (8 : Int32) < x4 then (
      some (x1, σ)
    ) else (
      Bd (g_X7_about N p3 x4 σ) fun r44 σ44 =>
        Bd (g_X7_mix N x1 r44 σ44) fun r47 σ47 =>
          lp_X7_digest_32 N p3 n32 r47 (x4 + (1 : Int32)) σ47
    )
def lp_X7_digest_60 (N : Nat) (p3 : Int32) : Nat → Int64 → Int32 → fS → Option (Int64 × fS)
  | 0, _, _, _ => none
  | n60 + 1, x1, x4, σ =>
    Gd (fin p3 8) (
      if (σ.1 (er 3 (p3).toNatClampNeg) 1) ≤ x4 then (
        some (x1, σ)
      ) else (
        Bd (g_X7_at N p3 x4 σ) fun r79 σ79 =>
          Bd (g_X7_mix N x1 r79 σ79) fun r82 σ82 =>
            lp_X7_digest_60 N p3 n60 r82 (x4 + (1 : Int32)) σ82
      )
    )
def lp_X7_digest_6 (N : Nat) : Nat → Int64 → Int32 → fS → Option (Int64 × fS)
  | 0, _, _, _ => none
  | n6 + 1, x1, x3, σ =>
    if (8 : Int32) ≤ x3 then (
      some (x1, σ)
    ) else (
      Bd (g_X7_hasForm N x3 σ) fun r14 σ14 =>
        if r14 = 0 then (
          Bd (g_X7_mix N x1 (0 : Int32) σ14) fun r22 σ22 =>
            lp_X7_digest_6 N n6 r22 (x3 + (1 : Int32)) σ22
        ) else (
          Bd (lp_X7_digest_32 N x3 N x1 (0 : Int32) σ14) fun o32 σl32 =>
            Bd (lp_X7_digest_60 N x3 N o32 (0 : Int32) σl32) fun o60 σl60 =>
              lp_X7_digest_6 N n6 o60 (x3 + (1 : Int32)) σl60
        )
    )
def lp_X7_digest_114 (N : Nat) (p3 : Int32) : Nat → Int64 → Int32 → fS → Option (Int64 × fS)
  | 0, _, _, _ => none
  | n114 + 1, x1, x4, σ =>
    if (4 : Int32) < x4 then (
      some (x1, σ)
    ) else (
      Bd (g_X7_pair N p3 x4 σ) fun r125 σ125 =>
        Bd (g_X7_mix N x1 r125 σ125) fun r128 σ128 =>
          lp_X7_digest_114 N p3 n114 r128 (x4 + (1 : Int32)) σ128
    )
def lp_X7_digest_100 (N : Nat) : Nat → Int64 → Int32 → fS → Option (Int64 × fS)
  | 0, _, _, _ => none
  | n100 + 1, x1, x3, σ =>
    if (σ.1 9 7) ≤ x3 then (
      some (x1, σ)
    ) else (
      Bd (lp_X7_digest_114 N x3 N x1 (0 : Int32) σ) fun o114 σl114 =>
        lp_X7_digest_100 N n100 o114 (x3 + (1 : Int32)) σl114
    )
def lp_X7_digest_146 (N : Nat) : Nat → Int64 → Int32 → fS → Option (Int64 × fS)
  | 0, _, _, _ => none
  | n146 + 1, x1, x3, σ =>
    if (σ.1 1 1) ≤ x3 then (
      some (x1, σ)
    ) else (
      Bd (g_X3_codeAt N x3 σ) fun r163 σ163 =>
        Bd (g_X7_mix N x1 r163 σ163) fun r166 σ166 =>
          lp_X7_digest_146 N n146 r166 (x3 + (1 : Int32)) σ166
    )
def lp_X7_digest_178 (N : Nat) : Nat → Int64 → Int32 → fS → Option (Int64 × fS)
  | 0, _, _, _ => none
  | n178 + 1, x1, x3, σ =>
    if (9 : Int32) < x3 then (
      some (x1, σ)
    ) else (
      Bd (g_X7_count N x3 σ) fun r187 σ187 =>
        Bd (g_X7_mix N x1 r187 σ187) fun r190 σ190 =>
          lp_X7_digest_178 N n178 r190 (x3 + (1 : Int32)) σ190
    )
def g_X7_digest (N : Nat)  (σ : fS) : Option (Int64 × fS) :=
  Bd (lp_X7_digest_6 N N (1487 : Int64) (0 : Int32) σ) fun o6 σl6 =>
    Bd (lp_X7_digest_100 N N o6 (0 : Int32) σl6) fun o100 σl100 =>
      Bd (lp_X7_digest_146 N N o100 (0 : Int32) σl100) fun o146 σl146 =>
        Bd (lp_X7_digest_178 N N o146 (0 : Int32) σl146) fun o178 σl178 =>
          some (o178, σl178)
def g_X8_within (N : Nat) (a0 : Int32) (a1 : Int32) (a2 : Int32) (σ : fS) : Option (Int32 × fS) :=
  if a0 < a1 then (
    some ((0 : Int32), σ)
  ) else (
    if a2 < a0 then (
      some ((0 : Int32), σ)
    ) else (
      some ((1 : Int32), σ)
    )
  )
def g_X8_isIn (N : Nat) (a0 : Int32) (a1 : Int32) (σ : fS) : Option (Int32 × fS) :=
  if ((a0 >>> (a1 &&& (31 : Int32))) &&& (1 : Int32)) = (1 : Int32) then (
    some ((1 : Int32), σ)
  ) else (
    some ((0 : Int32), σ)
  )
def g_X8_primeAt (N : Nat) (a0 : Int32) (σ : fS) : Option (Int32 × fS) :=
  if a0 = 1 then (
    some ((2 : Int32), σ)
  ) else (
    if a0 = 2 then (
      some ((3 : Int32), σ)
    ) else (
      if a0 = 3 then (
        some ((5 : Int32), σ)
      ) else (
        if a0 = 4 then (
          some ((7 : Int32), σ)
        ) else (
          if a0 = 5 then (
            some ((11 : Int32), σ)
          ) else (
            some ((13 : Int32), σ)
          )
        )
      )
    )
  )
def g_X8_modAt (N : Nat) (a0 : Int32) (σ : fS) : Option (Int32 × fS) :=
  if a0 = (1 : Int32) then (
    some ((16 : Int32), σ)
  ) else (
    Bd (g_X8_primeAt N a0 σ) fun r11 σ11 =>
      Bd (g_X8_primeAt N a0 σ11) fun r15 σ15 =>
        some ((r11 * r15), σ15)
  )
def lp_X8_coreOf_16 (N : Nat) (p0 : Int32) : Nat → Int32 → Int32 → fS → Option (Int32 × fS)
  | 0, _, _, _ => none
  | n16 + 1, x1, x2, σ =>
    if (7 : Int32) ≤ x2 then (
      some (x1, σ)
    ) else (
      Bd (g_X8_isIn N p0 x2 σ) fun r25 σ25 =>
        if r25 = 0 then (
          Lt (x1 * (1 : Int32)) fun v40 =>
            lp_X8_coreOf_16 N p0 n16 v40 (x2 + (1 : Int32)) σ25
        ) else (
          Bd (g_X8_primeAt N x2 σ25) fun r32 σ32 =>
            Lt (x1 * r32) fun v40 =>
              lp_X8_coreOf_16 N p0 n16 v40 (x2 + (1 : Int32)) σ32
        )
    )
def g_X8_coreOf (N : Nat) (a0 : Int32) (σ : fS) : Option (Int32 × fS) :=
  Bd (g_X8_isIn N a0 (0 : Int32) σ) fun r2 σ2 =>
    Bd (
      if r2 = 0 then (
        some ((1 : Int32), σ2)
      ) else (
        some ((-1 : Int32), σ2)
      )
    ) fun o5 σj5 =>
      Bd (lp_X8_coreOf_16 N a0 N o5 (1 : Int32) σj5) fun o16 σl16 =>
        some (o16, σl16)
def lp_X8_leftOf_19 (N : Nat) (p2 : Int32) : Nat → Int32 → fS → Option (Int32 × fS)
  | 0, _, _ => none
  | n19 + 1, x1, σ =>
    Bd (g_X8_primeAt N p2 σ) fun r21 σ21 =>
      Gd (nz r21) (
        if (iR x1 r21) = 0 then (
          Bd (g_X8_primeAt N p2 σ21) fun r30 σ30 =>
            Gd (nz r30) (
              Lt (x1 / r30) fun v34 =>
                lp_X8_leftOf_19 N p2 n19 v34 σ30
            )
        ) else (
          some (x1, σ21)
        )
      )
def lp_X8_leftOf_13 (N : Nat) : Nat → Int32 → Int32 → fS → Option (Int32 × fS)
  | 0, _, _, _ => none
  | n13 + 1, x1, x2, σ =>
    if (7 : Int32) ≤ x2 then (
      some (x1, σ)
    ) else (
      Bd (lp_X8_leftOf_19 N x2 N x1 σ) fun o19 σl19 =>
        lp_X8_leftOf_13 N n13 o19 (x2 + (1 : Int32)) σl19
    )
def g_X8_leftOf (N : Nat) (a0 : Int32) (σ : fS) : Option (Int32 × fS) :=
  Bd (
    if 0 ≤ a0 then (
      some (a0, σ)
    ) else (
      some ((-a0), σ)
    )
  ) fun o1 σj1 =>
    Bd (lp_X8_leftOf_13 N N o1 (1 : Int32) σj1) fun o13 σl13 =>
      some (o13, σl13)
def lp_X8_kindOf_29 (N : Nat) (p3 : Int32) : Nat → Int32 → Int32 → fS → Option ((Int32 × Int32) × fS)
  | 0, _, _, _ => none
  | n29 + 1, x1, x2, σ =>
    Bd (g_X8_primeAt N p3 σ) fun r31 σ31 =>
      Gd (nz r31) (
        if (iR x2 r31) = 0 then (
          Bd (g_X8_primeAt N p3 σ31) fun r40 σ40 =>
            Gd (nz r40) (
              Lt (x2 / r40) fun v44 =>
                Lt (x1 ^^^ ((1 : Int32) <<< (p3 &&& (31 : Int32)))) fun v50 =>
                  lp_X8_kindOf_29 N p3 n29 v50 v44 σ40
            )
        ) else (
          some ((x1, x2), σ31)
        )
      )
def lp_X8_kindOf_23 (N : Nat) : Nat → Int32 → Int32 → Int32 → fS → Option (Int32 × fS)
  | 0, _, _, _, _ => none
  | n23 + 1, x1, x2, x3, σ =>
    if (7 : Int32) ≤ x3 then (
      some (x1, σ)
    ) else (
      Bd (lp_X8_kindOf_29 N x3 N x1 x2 σ) fun o29 σl29 =>
        lp_X8_kindOf_23 N n23 o29.1 o29.2 (x3 + (1 : Int32)) σl29
    )
def g_X8_kindOf (N : Nat) (a0 : Int32) (σ : fS) : Option (Int32 × fS) :=
  Bd (
    if 0 ≤ a0 then (
      some ((0 : Int32), σ)
    ) else (
      some ((1 : Int32), σ)
    )
  ) fun o1 σj1 =>
    Bd (
      if 0 ≤ a0 then (
        some (a0, σj1)
      ) else (
        some ((-a0), σj1)
      )
    ) fun o11 σj11 =>
      Bd (lp_X8_kindOf_23 N N o1 o11 (1 : Int32) σj11) fun o23 σl23 =>
        some (o23, σl23)
def g_X8_isNumber (N : Nat) (a0 : Int32) (σ : fS) : Option (Int32 × fS) :=
  Bd (g_X8_within N a0 (-99 : Int32) (99 : Int32) σ) fun r5 σ5 =>
    if r5 = 0 then (
      some ((0 : Int32), σ5)
    ) else (
      if a0 = 0 then (
        some ((0 : Int32), σ5)
      ) else (
        Bd (g_X8_leftOf N a0 σ5) fun r16 σ16 =>
          if r16 = (1 : Int32) then (
            some ((1 : Int32), σ16)
          ) else (
            some ((0 : Int32), σ16)
          )
      )
    )
def g_X8_isKind (N : Nat) (a0 : Int32) (σ : fS) : Option (Int32 × fS) :=
  Bd (g_X8_within N a0 (0 : Int32) (127 : Int32) σ) fun r4 σ4 =>
    Gd (isB r4) (
    some (r4, σ4)
    )
def g_X8_isPlace (N : Nat) (a0 : Int32) (σ : fS) : Option (Int32 × fS) :=
  Bd (g_X8_within N a0 (0 : Int32) (6 : Int32) σ) fun r4 σ4 =>
    Gd (isB r4) (
    some (r4, σ4)
    )
def lp_X8_isSquare_30 (N : Nat) (p1 : Int32) (p2 : Int32) (p3 : Int32) : Nat → Int32 → Int32 → fS → Option (Int32 × fS)
  | 0, _, _, _ => none
  | n30 + 1, x4, x5, σ =>
    if p3 ≤ x5 then (
      some (x4, σ)
    ) else (
      if x4 = 0 then (
        Bd (g_X8_primeAt N p1 σ) fun r44 σ44 =>
          Gd (nz r44) (
            if (iR x5 r44) = 0 then (
              lp_X8_isSquare_30 N p1 p2 p3 n30 (0 : Int32) (x5 + (1 : Int32)) σ44
            ) else (
              Gd (nz p3) (
                if (iR ((x5 * x5) - p2) p3) = 0 then (
                  lp_X8_isSquare_30 N p1 p2 p3 n30 (1 : Int32) (x5 + (1 : Int32)) σ44
                ) else (
                  lp_X8_isSquare_30 N p1 p2 p3 n30 (0 : Int32) (x5 + (1 : Int32)) σ44
                )
              )
            )
          )
      ) else (
        lp_X8_isSquare_30 N p1 p2 p3 n30 (1 : Int32) (x5 + (1 : Int32)) σ
      )
    )
def g_X8_isSquare (N : Nat) (a0 : Int32) (a1 : Int32) (σ : fS) : Option (Int32 × fS) :=
  Bd (g_X8_coreOf N a0 σ) fun r1 σ1 =>
    if a1 = 0 then (
      if r1 ≤ 0 then (
        some ((0 : Int32), σ1)
      ) else (
        some ((1 : Int32), σ1)
      )
    ) else (
      Bd (g_X8_modAt N a1 σ1) fun r20 σ20 =>
        Bd (lp_X8_isSquare_30 N a1 r1 r20 N (0 : Int32) (0 : Int32) σ20) fun o30 σl30 =>
          Gd (isB o30) (
          some (o30, σl30)
          )
    )
def lp_X8_addRests_3 (N : Nat) (p1 : Int32) (p2 : Int32) (p3 : Int32) (p4 : Int32) : Nat → Int32 → fS → Option fS
  | 0, _, _ => none
  | n3 + 1, x5, σ =>
    if (p3 / (2 : Int32)) < x5 then (
      some σ
    ) else (
      Gd (nz p3) (
        Gd (nz p3) (
          Lt (iR (p1 + (p2 * (iR (x5 * x5) p3))) p3) fun v24 =>
            Gd (nz p4) (
              Bd (
                if (iR x5 p4) = 0 then (
                  some ((1 : Int32), σ)
                ) else (
                  some ((0 : Int32), σ)
                )
              ) fun o31 σj31 =>
                Gd (fin v24 169) (
                  Bd (
                    if (σj31.1 80 (v24).toNatClampNeg) = 0 then (
                      Gd (fin p1 169) (
                        if (σj31.1 78 (p1).toNatClampNeg) = 0 then (
                          some ((0 : Int32), σj31)
                        ) else (
                          if o31 = 0 then (
                            some ((0 : Int32), σj31)
                          ) else (
                            some ((1 : Int32), σj31)
                          )
                        )
                      )
                    ) else (
                      some ((1 : Int32), σj31)
                    )
                  ) fun o54 σj54 =>
                    Gd (fin v24 169) (
                    Gd (isB o54) (
                    Lt (sI σj54 80 (v24).toNatClampNeg o54) fun σ76 =>
                      Gd (fin v24 169) (
                        Bd (
                          if (σ76.1 81 (v24).toNatClampNeg) = 0 then (
                            Gd (fin p1 169) (
                              if (σ76.1 79 (p1).toNatClampNeg) = 0 then (
                                Gd (fin p1 169) (
                                  if (σ76.1 78 (p1).toNatClampNeg) = 0 then (
                                    some ((0 : Int32), σ76)
                                  ) else (
                                    if o31 = 0 then (
                                      some ((1 : Int32), σ76)
                                    ) else (
                                      some ((0 : Int32), σ76)
                                    )
                                  )
                                )
                              ) else (
                                some ((1 : Int32), σ76)
                              )
                            )
                          ) else (
                            some ((1 : Int32), σ76)
                          )
                        ) fun o90 σj90 =>
                          Gd (fin v24 169) (
                          Gd (isB o90) (
                          Lt (sI σj90 81 (v24).toNatClampNeg o90) fun σ121 =>
                            lp_X8_addRests_3 N p1 p2 p3 p4 n3 (x5 + (1 : Int32)) σ121
                          )
                          )
                      )
                    )
                    )
                )
            )
        )
      )
    )
def g_X8_addRests (N : Nat) (a1 : Int32) (a2 : Int32) (a3 : Int32) (a4 : Int32) (σ : fS) : Option fS :=
  Bv (lp_X8_addRests_3 N a1 a2 a3 a4 N (0 : Int32) σ) fun σl3 =>
    some σl3
def lp_X8_addTerm_3 (N : Nat) (p1 : Int32) (p2 : Int32) (p3 : Int32) : Nat → Int32 → fS → Option fS
  | 0, _, _ => none
  | n3 + 1, x4, σ =>
    if p2 ≤ x4 then (
      some σ
    ) else (
      Gd (fin x4 169) (
      Lt (sI σ 80 (x4).toNatClampNeg (0 : Int32)) fun σ16 =>
        Gd (fin x4 169) (
        Lt (sI σ16 81 (x4).toNatClampNeg (0 : Int32)) fun σ24 =>
          lp_X8_addTerm_3 N p1 p2 p3 n3 (x4 + (1 : Int32)) σ24
        )
      )
    )
def lp_X8_addTerm_43 (N : Nat) (p2 : Int32) (p3 : Int32) (p4 : Int32) : Nat → Int32 → fS → Option fS
  | 0, _, _ => none
  | n43 + 1, x5, σ =>
    if p2 ≤ x5 then (
      some σ
    ) else (
      Gd (fin x5 169) (
        if (σ.1 78 (x5).toNatClampNeg) = 0 then (
          Gd (fin x5 169) (
            if (σ.1 79 (x5).toNatClampNeg) = 0 then (
              lp_X8_addTerm_43 N p2 p3 p4 n43 (x5 + (1 : Int32)) σ
            ) else (
              Bv (g_X8_addRests N x5 p4 p2 p3 σ) fun σ76 =>
                lp_X8_addTerm_43 N p2 p3 p4 n43 (x5 + (1 : Int32)) σ76
            )
          )
        ) else (
          Bv (g_X8_addRests N x5 p4 p2 p3 σ) fun σ76 =>
            lp_X8_addTerm_43 N p2 p3 p4 n43 (x5 + (1 : Int32)) σ76
        )
      )
    )
def lp_X8_addTerm_88 (N : Nat) (p2 : Int32) : Nat → Int32 → fS → Option fS
  | 0, _, _ => none
  | n88 + 1, x5, σ =>
    if p2 ≤ x5 then (
      some σ
    ) else (
      Gd (fin x5 169) (
        Gd (fin x5 169) (
        Gd (isB (σ.1 80 (x5).toNatClampNeg)) (
        Lt (sI σ 78 (x5).toNatClampNeg (σ.1 80 (x5).toNatClampNeg)) fun σ107 =>
          Gd (fin x5 169) (
            Gd (fin x5 169) (
            Gd (isB (σ107.1 81 (x5).toNatClampNeg)) (
            Lt (sI σ107 79 (x5).toNatClampNeg (σ107.1 81 (x5).toNatClampNeg)) fun σ121 =>
              lp_X8_addTerm_88 N p2 n88 (x5 + (1 : Int32)) σ121
            )
            )
          )
        )
        )
      )
    )
def g_X8_addTerm (N : Nat) (a1 : Int32) (a2 : Int32) (a3 : Int32) (σ : fS) : Option fS :=
  Bv (lp_X8_addTerm_3 N a1 a2 a3 N (0 : Int32) σ) fun σl3 =>
    Gd (nz a2) (
      Gd (nz a2) (
        Lt (iR ((iR a1 a2) + a2) a2) fun v38 =>
          Bv (lp_X8_addTerm_43 N a2 a3 v38 N (0 : Int32) σl3) fun σl43 =>
            Bv (lp_X8_addTerm_88 N a2 N (0 : Int32) σl43) fun σl88 =>
              some σl88
      )
    )
def lp_X8_vanishesReal_6 (N : Nat) : Nat → Int32 → Int32 → Int32 → fS → Option ((Int32 × Int32) × fS)
  | 0, _, _, _, _ => none
  | n6 + 1, x1, x2, x3, σ =>
    if (σ.1 61 21) ≤ x3 then (
      some ((x1, x2), σ)
    ) else (
      Bd (
        if x1 = 0 then (
          Gd (fin x3 5) (
            Bd (g_X8_isIn N (σ.1 77 (x3).toNatClampNeg) (0 : Int32) σ) fun r25 σ25 =>
              if r25 = 0 then (
                some ((1 : Int32), σ25)
              ) else (
                some ((0 : Int32), σ25)
              )
          )
        ) else (
          some ((1 : Int32), σ)
        )
      ) fun o15 σj15 =>
        if x2 = 0 then (
          Gd (fin x3 5) (
            Bd (g_X8_isIn N (σj15.1 77 (x3).toNatClampNeg) (0 : Int32) σj15) fun r48 σ48 =>
              if r48 = 0 then (
                lp_X8_vanishesReal_6 N n6 o15 (0 : Int32) (x3 + (1 : Int32)) σ48
              ) else (
                lp_X8_vanishesReal_6 N n6 o15 (1 : Int32) (x3 + (1 : Int32)) σ48
              )
          )
        ) else (
          lp_X8_vanishesReal_6 N n6 o15 (1 : Int32) (x3 + (1 : Int32)) σj15
        )
    )
def g_X8_vanishesReal (N : Nat)  (σ : fS) : Option (Int32 × fS) :=
  Bd (lp_X8_vanishesReal_6 N N (0 : Int32) (0 : Int32) (0 : Int32) σ) fun o6 σl6 =>
    if o6.1 = 0 then (
      some ((0 : Int32), σl6)
    ) else (
      if o6.2 = 0 then (
        some ((0 : Int32), σl6)
      ) else (
        some ((1 : Int32), σl6)
      )
    )
def lp_X8_vanishes_16 (N : Nat) (p1 : Int32) (p2 : Int32) : Nat → Int32 → fS → Option fS
  | 0, _, _ => none
  | n16 + 1, x3, σ =>
    if p2 ≤ x3 then (
      some σ
    ) else (
      Bd (
        if x3 = 0 then (
          some ((1 : Int32), σ)
        ) else (
          some ((0 : Int32), σ)
        )
      ) fun o27 σj27 =>
        Gd (fin x3 169) (
        Gd (isB o27) (
        Lt (sI σj27 78 (x3).toNatClampNeg o27) fun σ35 =>
          Gd (fin x3 169) (
          Lt (sI σ35 79 (x3).toNatClampNeg (0 : Int32)) fun σ42 =>
            lp_X8_vanishes_16 N p1 p2 n16 (x3 + (1 : Int32)) σ42
          )
        )
        )
    )
def lp_X8_vanishes_51 (N : Nat) (p1 : Int32) (p2 : Int32) : Nat → Int32 → fS → Option fS
  | 0, _, _ => none
  | n51 + 1, x3, σ =>
    if (σ.1 61 21) ≤ x3 then (
      some σ
    ) else (
      Gd (fin x3 5) (
        Bd (g_X8_coreOf N (σ.1 77 (x3).toNatClampNeg) σ) fun r66 σ66 =>
          Bd (g_X8_primeAt N p1 σ66) fun r71 σ71 =>
            Bv (g_X8_addTerm N r66 p2 r71 σ71) fun σ74 =>
              lp_X8_vanishes_51 N p1 p2 n51 (x3 + (1 : Int32)) σ74
      )
    )
def g_X8_vanishes (N : Nat) (a1 : Int32) (σ : fS) : Option (Int32 × fS) :=
  if a1 = 0 then (
    Bd (g_X8_vanishesReal N σ) fun r5 σ5 =>
      Gd (isB r5) (
      some (r5, σ5)
      )
  ) else (
    Bd (g_X8_modAt N a1 σ) fun r10 σ10 =>
      Bv (lp_X8_vanishes_16 N a1 r10 N (0 : Int32) σ10) fun σl16 =>
        Bv (lp_X8_vanishes_51 N a1 r10 N (0 : Int32) σl16) fun σl51 =>
          Gd (fin (0 : Int32) 169) (
            Gd (isB (σl51.1 79 ((0 : Int32)).toNatClampNeg)) (
            some ((σl51.1 79 ((0 : Int32)).toNatClampNeg), σl51)
            )
          )
  )
def lp_X8_barsNow_4 (N : Nat) : Nat → Int32 → Int32 → fS → Option (Int32 × fS)
  | 0, _, _, _ => none
  | n4 + 1, x1, x2, σ =>
    if (7 : Int32) ≤ x2 then (
      some (x1, σ)
    ) else (
      Bd (g_X8_vanishes N x2 σ) fun r13 σ13 =>
        if r13 = 0 then (
          Lt (x1 ||| ((1 : Int32) <<< (x2 &&& (31 : Int32)))) fun v27 =>
            lp_X8_barsNow_4 N n4 v27 (x2 + (1 : Int32)) σ13
        ) else (
          Lt (x1 ||| (0 : Int32)) fun v27 =>
            lp_X8_barsNow_4 N n4 v27 (x2 + (1 : Int32)) σ13
        )
    )
def g_X8_barsNow (N : Nat)  (σ : fS) : Option (Int32 × fS) :=
  Bd (lp_X8_barsNow_4 N N (0 : Int32) (0 : Int32) σ) fun o4 σl4 =>
    some (o4, σl4)
def g_X8_symbolNow (N : Nat) (a1 : Int32) (a2 : Int32) (a3 : Int32) (σ : fS) : Option (Int32 × fS) :=
  Lt (sI σ 61 21 (3 : Int32)) fun σ2 =>
    Gd (fin (0 : Int32) 5) (
    Lt (sI σ2 77 ((0 : Int32)).toNatClampNeg a1) fun σ11 =>
      Gd (fin (1 : Int32) 5) (
      Lt (sI σ11 77 ((1 : Int32)).toNatClampNeg a2) fun σ18 =>
        Gd (fin (2 : Int32) 5) (
        Lt (sI σ18 77 ((2 : Int32)).toNatClampNeg (1 : Int32)) fun σ25 =>
          Bd (g_X8_vanishes N a3 σ25) fun r28 σ28 =>
            if r28 = 0 then (
              some ((-1 : Int32), σ28)
            ) else (
              some ((1 : Int32), σ28)
            )
        )
      )
    )
def lp_X8_unlike_5 (N : Nat) (p1 : Int32) (p2 : Int32) : Nat → Int32 → Int32 → fS → Option (Int32 × fS)
  | 0, _, _, _ => none
  | n5 + 1, x3, x4, σ =>
    if (7 : Int32) ≤ x4 then (
      some (x3, σ)
    ) else (
      Bd (g_X8_symbolNow N p1 p2 x4 σ) fun r18 σ18 =>
        if 0 ≤ r18 then (
          Lt (x3 ||| (0 : Int32)) fun v33 =>
            lp_X8_unlike_5 N p1 p2 n5 v33 (x4 + (1 : Int32)) σ18
        ) else (
          Lt (x3 ||| ((1 : Int32) <<< (x4 &&& (31 : Int32)))) fun v33 =>
            lp_X8_unlike_5 N p1 p2 n5 v33 (x4 + (1 : Int32)) σ18
        )
    )
def g_X8_unlike (N : Nat) (a1 : Int32) (a2 : Int32) (σ : fS) : Option (Int32 × fS) :=
  Bd (lp_X8_unlike_5 N a1 a2 N (0 : Int32) (0 : Int32) σ) fun o5 σl5 =>
    some (o5, σl5)
def g_X8_letter (N : Nat) (a1 : Int32) (σ : fS) : Option (Int32 × fS) :=
  Bd (g_X8_within N a1 (32 : Int32) (126 : Int32) σ) fun r5 σ5 =>
    if r5 = 0 then (
      some ((-102 : Int32), σ5)
    ) else (
      if (σ5.1 61 5) = (18 : Int32) then (
        some ((-104 : Int32), σ5)
      ) else (
        Gd (fin (σ5.1 61 5) 18) (
        Lt (sI σ5 67 ((σ5.1 61 5)).toNatClampNeg (vp_nar .byte (a1).toInt8.toInt32)) fun σ36 =>
          Lt (sI σ36 61 5 ((σ36.1 61 5) + (1 : Int32))) fun σ44 =>
            some ((σ44.1 61 5), σ44)
        )
      )
    )
def g_X8_blank (N : Nat)  (σ : fS) : Option (Int32 × fS) :=
  Lt (σ.1 61 5) fun v4 =>
    Lt (sI σ 61 5 (0 : Int32)) fun σ7 =>
      some (v4, σ7)
def g_X8_letterAt (N : Nat) (a1 : Int32) (σ : fS) : Option (Int32 × fS) :=
  if (σ.1 61 5) ≤ a1 then (
    some ((0 : Int32), σ)
  ) else (
    Gd (fin a1 18) (
      some ((σ.1 67 (a1).toNatClampNeg), σ)
    )
  )
def g_X8_readNumber (N : Nat) (a1 : Int32) (σ : fS) : Option (Int32 × fS) :=
  Bd (g_X8_letterAt N a1 σ) fun r2 σ2 =>
    Bd (
      if r2 = (45 : Int32) then (
        some ((a1 + (1 : Int32)), σ2)
      ) else (
        some (a1, σ2)
      )
    ) fun o7 σj7 =>
      Bd (g_X8_letterAt N o7 σj7) fun r20 σ20 =>
        Bd (g_X8_within N r20 (49 : Int32) (57 : Int32) σ20) fun r27 σ27 =>
          if r27 = 0 then (
            some (((-1 : Int32) - o7), σ27)
          ) else (
            Bd (g_X8_letterAt N o7 σ27) fun r39 σ39 =>
              Lt (r39 - (48 : Int32)) fun v45 =>
                Bd (g_X8_letterAt N (o7 + (1 : Int32)) σ39) fun r51 σ51 =>
                  Bd (g_X8_within N r51 (48 : Int32) (57 : Int32) σ51) fun r58 σ58 =>
                    if r58 = 0 then (
                      Bd (g_X8_letterAt N a1 σ58) fun r102 σ102 =>
                        Bd (
                          if r102 = (45 : Int32) then (
                            some ((-v45), σ102)
                          ) else (
                            some (v45, σ102)
                          )
                        ) fun o107 σj107 =>
                          Bd (g_X8_kindOf N o107 σj107) fun r116 σ116 =>
                            Gd (fin (σ58.1 61 28) 4) (
                            Lt (sI σ116 82 ((σ58.1 61 28)).toNatClampNeg r116) fun σ119 =>
                              Lt (sI σ119 61 28 ((σ119.1 61 28) + (1 : Int32))) fun σ127 =>
                                some ((o7 + (1 : Int32)), σ127)
                            )
                    ) else (
                      Bd (g_X8_letterAt N (o7 + (1 : Int32)) σ58) fun r70 σ70 =>
                        Lt ((((10 : Int32) * v45) + r70) - (48 : Int32)) fun v77 =>
                          Bd (g_X8_isNumber N v77 σ70) fun r79 σ79 =>
                            if r79 = 0 then (
                              some (((-1 : Int32) - (o7 + (1 : Int32))), σ79)
                            ) else (
                              Bd (g_X8_letterAt N a1 σ79) fun r102 σ102 =>
                                Bd (
                                  if r102 = (45 : Int32) then (
                                    some ((-v77), σ102)
                                  ) else (
                                    some (v77, σ102)
                                  )
                                ) fun o107 σj107 =>
                                  Bd (g_X8_kindOf N o107 σj107) fun r116 σ116 =>
                                    Gd (fin (σ79.1 61 28) 4) (
                                    Lt (sI σ116 82 ((σ79.1 61 28)).toNatClampNeg r116) fun σ119 =>
                                      Lt (sI σ119 61 28 ((σ119.1 61 28) + (1 : Int32))) fun σ127 =>
                                        some (((o7 + (1 : Int32)) + (1 : Int32)), σ127)
                                    )
                            )
                    )
          )
def lp_X8_read_16 (N : Nat) : Nat → Int32 → fS → Option (Int32 × fS)
  | 0, _, _ => none
  | n16 + 1, x1, σ =>
    if x1 < 0 then (
      some (x1, σ)
    ) else (
      Bd (g_X8_letterAt N x1 σ) fun r22 σ22 =>
        if r22 = (44 : Int32) then (
          if (4 : Int32) ≤ (σ22.1 61 28) then (
            some (x1, σ22)
          ) else (
            Bd (g_X8_readNumber N (x1 + (1 : Int32)) σ22) fun r42 σ42 =>
              lp_X8_read_16 N n16 r42 σ42
          )
        ) else (
          some (x1, σ22)
        )
    )
def g_X8_read (N : Nat)  (σ : fS) : Option (Int32 × fS) :=
  Lt (sI σ 61 28 (0 : Int32)) fun σ2 =>
    Lt (sI σ2 61 27 (0 : Int32)) fun σ7 =>
      Bd (g_X8_readNumber N (0 : Int32) σ7) fun r12 σ12 =>
        Bd (lp_X8_read_16 N N r12 σ12) fun o16 σl16 =>
          Bd (
            if o16 < 0 then (
              some ((0 : Int32), σl16)
            ) else (
              if o16 = (σl16.1 61 5) then (
                some ((1 : Int32), σl16)
              ) else (
                some ((0 : Int32), σl16)
              )
            )
          ) fun o51 σj51 =>
            Gd (isB o51) (
            Lt (sI σj51 61 27 o51) fun σ67 =>
              if o16 < 0 then (
                some (((-1 : Int32) - o16), σ67)
              ) else (
                some (o16, σ67)
              )
            )
def g_X8_fault (N : Nat)  (σ : fS) : Option (Int32 × fS) :=
  Bd (g_X8_read N σ) fun r1 σ1 =>
    some (r1, σ1)
def g_X8_isShelf (N : Nat) (a0 : Int32) (σ : fS) : Option (Int32 × fS) :=
  Bd (g_X8_within N a0 (0 : Int32) (7 : Int32) σ) fun r4 σ4 =>
    Gd (isB r4) (
    some (r4, σ4)
    )
def g_X8_isForm (N : Nat) (a1 : Int32) (σ : fS) : Option (Int32 × fS) :=
  Bd (g_X8_isShelf N a1 σ) fun r1 σ1 =>
    if r1 = 0 then (
      some ((0 : Int32), σ1)
    ) else (
      Gd (fin a1 8) (
        if (σ1.1 62 (a1).toNatClampNeg) ≤ 0 then (
          some ((0 : Int32), σ1)
        ) else (
          some ((1 : Int32), σ1)
        )
      )
    )
def g_X8_isTerm (N : Nat) (a1 : Int32) (a2 : Int32) (σ : fS) : Option (Int32 × fS) :=
  Bd (g_X8_isForm N a1 σ) fun r2 σ2 =>
    if r2 = 0 then (
      some ((0 : Int32), σ2)
    ) else (
      Gd (fin a1 8) (
        Bd (g_X8_within N a2 (0 : Int32) ((σ2.1 62 (a1).toNatClampNeg) - (1 : Int32)) σ2) fun r18 σ18 =>
          if r18 = 0 then (
            some ((0 : Int32), σ18)
          ) else (
            some ((1 : Int32), σ18)
          )
      )
    )
def lp_X8_dropOldest_38 (N : Nat) (p1 : Int32) : Nat → Int32 → fS → Option fS
  | 0, _, _ => none
  | n38 + 1, x2, σ =>
    if (4 : Int32) ≤ x2 then (
      some σ
    ) else (
      Gd (fin (((4 : Int32) * p1) + x2) 48) (
        Gd (fin ((((4 : Int32) * p1) - (4 : Int32)) + x2) 48) (
        Lt (sI σ 70 (((((4 : Int32) * p1) - (4 : Int32)) + x2)).toNatClampNeg (σ.1 70 ((((4 : Int32) * p1) + x2)).toNatClampNeg)) fun σ64 =>
          lp_X8_dropOldest_38 N p1 n38 (x2 + (1 : Int32)) σ64
        )
      )
    )
def lp_X8_dropOldest_2 (N : Nat) : Nat → Int32 → fS → Option fS
  | 0, _, _ => none
  | n2 + 1, x1, σ =>
    if (12 : Int32) ≤ x1 then (
      some σ
    ) else (
      Gd (fin x1 12) (
        Gd (fin (x1 - (1 : Int32)) 12) (
        Lt (sI σ 68 ((x1 - (1 : Int32))).toNatClampNeg (σ.1 68 (x1).toNatClampNeg)) fun σ21 =>
          Gd (fin x1 12) (
            Gd (fin (x1 - (1 : Int32)) 12) (
            Lt (sI σ21 69 ((x1 - (1 : Int32))).toNatClampNeg (σ21.1 69 (x1).toNatClampNeg)) fun σ35 =>
              Bv (lp_X8_dropOldest_38 N x1 N (0 : Int32) σ35) fun σl38 =>
                lp_X8_dropOldest_2 N n2 (x1 + (1 : Int32)) σl38
            )
          )
        )
      )
    )
def g_X8_dropOldest (N : Nat)  (σ : fS) : Option fS :=
  Bv (lp_X8_dropOldest_2 N N (1 : Int32) σ) fun σl2 =>
    Lt (sI σl2 61 7 ((σl2.1 61 7) - (1 : Int32))) fun σ84 =>
      some σ84
def lp_X8_keep_40 (N : Nat) (p1 : Int32) : Nat → Int32 → fS → Option fS
  | 0, _, _ => none
  | n40 + 1, x2, σ =>
    if (4 : Int32) ≤ x2 then (
      some σ
    ) else (
      Gd (fin (((4 : Int32) * p1) + x2) 32) (
        Gd (fin (((4 : Int32) * (σ.1 61 7)) + x2) 48) (
        Lt (sI σ 70 ((((4 : Int32) * (σ.1 61 7)) + x2)).toNatClampNeg (σ.1 63 ((((4 : Int32) * p1) + x2)).toNatClampNeg)) fun σ67 =>
          lp_X8_keep_40 N p1 n40 (x2 + (1 : Int32)) σ67
        )
      )
    )
def g_X8_keep (N : Nat) (a1 : Int32) (σ : fS) : Option fS :=
  Bv (
    if (σ.1 61 7) = (12 : Int32) then (
      Bv (g_X8_dropOldest N σ) fun σ10 =>
        some σ10
    ) else (
      some σ
    )
  ) fun σj6 =>
    Gd (fin (σj6.1 61 7) 12) (
    Lt (sI σj6 68 ((σj6.1 61 7)).toNatClampNeg a1) fun σ22 =>
      Gd (fin a1 8) (
        Gd (fin (σ22.1 61 7) 12) (
        Lt (sI σ22 69 ((σ22.1 61 7)).toNatClampNeg (σ22.1 62 (a1).toNatClampNeg)) fun σ37 =>
          Bv (lp_X8_keep_40 N a1 N (0 : Int32) σ37) fun σl40 =>
            Lt (sI σl40 61 7 ((σl40.1 61 7) + (1 : Int32))) fun σ81 =>
              Lt (sI σ81 61 11 ((σ81.1 61 11) + (1 : Int32))) fun σ91 =>
                some σ91
        )
      )
    )
def lp_X8_layNew_17 (N : Nat) (p1 : Int32) : Nat → Int32 → fS → Option fS
  | 0, _, _ => none
  | n17 + 1, x2, σ =>
    if (4 : Int32) ≤ x2 then (
      some σ
    ) else (
      Bd (
        if (σ.1 61 28) ≤ x2 then (
          some ((0 : Int32), σ)
        ) else (
          Gd (fin x2 4) (
            some ((σ.1 82 (x2).toNatClampNeg), σ)
          )
        )
      ) fun o36 σj36 =>
        Gd (fin (((4 : Int32) * p1) + x2) 32) (
        Lt (sI σj36 63 ((((4 : Int32) * p1) + x2)).toNatClampNeg o36) fun σ49 =>
          lp_X8_layNew_17 N p1 n17 (x2 + (1 : Int32)) σ49
        )
    )
def g_X8_layNew (N : Nat) (a1 : Int32) (σ : fS) : Option (Int32 × fS) :=
  Bv (g_X8_keep N a1 σ) fun σ2 =>
    Gd (fin a1 8) (
    Lt (sI σ2 62 (a1).toNatClampNeg (σ2.1 61 28)) fun σ14 =>
      Bv (lp_X8_layNew_17 N a1 N (0 : Int32) σ14) fun σl17 =>
        Gd (fin a1 8) (
        Lt (sI σl17 64 (a1).toNatClampNeg (0 : Int32)) fun σ62 =>
          some ((σ62.1 61 28), σ62)
        )
    )
def lp_X8_take_12 (N : Nat) (p1 : Int32) : Nat → Int32 → fS → Option fS
  | 0, _, _ => none
  | n12 + 1, x2, σ =>
    if (4 : Int32) ≤ x2 then (
      some σ
    ) else (
      Gd (fin (((4 : Int32) * p1) + x2) 32) (
        Gd (fin x2 4) (
        Lt (sI σ 82 (x2).toNatClampNeg (σ.1 63 ((((4 : Int32) * p1) + x2)).toNatClampNeg)) fun σ32 =>
          lp_X8_take_12 N p1 n12 (x2 + (1 : Int32)) σ32
        )
      )
    )
def g_X8_take (N : Nat) (a1 : Int32) (σ : fS) : Option fS :=
  Gd (fin a1 8) (
    Lt (sI σ 61 28 (σ.1 62 (a1).toNatClampNeg)) fun σ7 =>
      Bv (lp_X8_take_12 N a1 N (0 : Int32) σ7) fun σl12 =>
        some σl12
  )
def g_X8_put (N : Nat) (a1 : Int32) (σ : fS) : Option (Int32 × fS) :=
  Bd (g_X8_isShelf N a1 σ) fun r1 σ1 =>
    if r1 = 0 then (
      some ((-101 : Int32), σ1)
    ) else (
      Bd (g_X8_read N σ1) fun r11 σ11 =>
        if (σ11.1 61 27) = 0 then (
          some ((-103 : Int32), σ11)
        ) else (
          Lt (sI σ11 61 5 (0 : Int32)) fun σ27 =>
            Bd (g_X8_layNew N a1 σ27) fun r32 σ32 =>
              some (r32, σ32)
        )
    )
def g_X8_classOf (N : Nat) (a1 : Int32) (σ : fS) : Option (Int32 × fS) :=
  Bd (g_X8_isNumber N a1 σ) fun r1 σ1 =>
    if r1 = 0 then (
      some ((-102 : Int32), σ1)
    ) else (
      Bd (g_X8_kindOf N a1 σ1) fun r8 σ8 =>
        some (r8, σ8)
    )
def g_X8_core (N : Nat) (a1 : Int32) (σ : fS) : Option (Int32 × fS) :=
  Bd (g_X8_isKind N a1 σ) fun r1 σ1 =>
    if r1 = 0 then (
      some ((-102 : Int32), σ1)
    ) else (
      Bd (g_X8_coreOf N a1 σ1) fun r8 σ8 =>
        some (r8, σ8)
    )
def g_X8_symbol (N : Nat) (a1 : Int32) (a2 : Int32) (a3 : Int32) (σ : fS) : Option (Int32 × fS) :=
  Bd (g_X8_isPlace N a3 σ) fun r1 σ1 =>
    if r1 = 0 then (
      some ((-101 : Int32), σ1)
    ) else (
      Bd (g_X8_isKind N a1 σ1) fun r11 σ11 =>
        if r11 = 0 then (
          some ((-102 : Int32), σ11)
        ) else (
          Bd (g_X8_isKind N a2 σ11) fun r18 σ18 =>
            if r18 = 0 then (
              some ((-102 : Int32), σ18)
            ) else (
              Bd (g_X8_symbolNow N a1 a2 a3 σ18) fun r28 σ28 =>
                some (r28, σ28)
            )
        )
    )
def g_X8_square (N : Nat) (a1 : Int32) (a2 : Int32) (σ : fS) : Option (Int32 × fS) :=
  Bd (g_X8_isPlace N a2 σ) fun r1 σ1 =>
    if r1 = 0 then (
      some ((-101 : Int32), σ1)
    ) else (
      Bd (g_X8_isKind N a1 σ1) fun r11 σ11 =>
        if r11 = 0 then (
          some ((-102 : Int32), σ11)
        ) else (
          Bd (g_X8_isSquare N a1 a2 σ11) fun r24 σ24 =>
            if r24 = 0 then (
              some ((0 : Int32), σ24)
            ) else (
              some ((1 : Int32), σ24)
            )
        )
    )
def g_X8_at (N : Nat) (a1 : Int32) (a2 : Int32) (σ : fS) : Option (Int32 × fS) :=
  Bd (g_X8_isTerm N a1 a2 σ) fun r3 σ3 =>
    if r3 = 0 then (
      some ((-101 : Int32), σ3)
    ) else (
      Gd (fin (((4 : Int32) * a1) + a2) 32) (
        Bd (g_X8_coreOf N (σ3.1 63 ((((4 : Int32) * a1) + a2)).toNatClampNeg) σ3) fun r19 σ19 =>
          some (r19, σ19)
      )
    )
def lp_X8_lookAt_12 (N : Nat) (p1 : Int32) : Nat → Int32 → fS → Option fS
  | 0, _, _ => none
  | n12 + 1, x2, σ =>
    if (σ.1 61 21) ≤ x2 then (
      some σ
    ) else (
      Gd (fin (((4 : Int32) * p1) + x2) 32) (
        Gd (fin x2 5) (
        Lt (sI σ 77 (x2).toNatClampNeg (σ.1 63 ((((4 : Int32) * p1) + x2)).toNatClampNeg)) fun σ35 =>
          lp_X8_lookAt_12 N p1 n12 (x2 + (1 : Int32)) σ35
        )
      )
    )
def g_X8_lookAt (N : Nat) (a1 : Int32) (σ : fS) : Option fS :=
  Gd (fin a1 8) (
    Lt (sI σ 61 21 (σ.1 62 (a1).toNatClampNeg)) fun σ7 =>
      Bv (lp_X8_lookAt_12 N a1 N (0 : Int32) σ7) fun σl12 =>
        some σl12
  )
def lp_X8_layForm_36 (N : Nat) (p1 : Int32) (p3 : Int32) : Nat → Int32 → Int32 → fS → Option (Int32 × fS)
  | 0, _, _, _ => none
  | n36 + 1, x2, x4, σ =>
    Gd (fin p1 8) (
      if (σ.1 62 (p1).toNatClampNeg) ≤ x4 then (
        some (x2, σ)
      ) else (
        Gd (fin (((4 : Int32) * p1) + p3) 32) (
          Gd (fin (((4 : Int32) * p1) + x4) 32) (
            Bd (g_X8_unlike N (σ.1 63 ((((4 : Int32) * p1) + p3)).toNatClampNeg) (σ.1 63 ((((4 : Int32) * p1) + x4)).toNatClampNeg) σ) fun r70 σ70 =>
              Lt (x2 ^^^ r70) fun v74 =>
                lp_X8_layForm_36 N p1 p3 n36 v74 (x4 + (1 : Int32)) σ70
          )
        )
      )
    )
def lp_X8_layForm_21 (N : Nat) (p1 : Int32) : Nat → Int32 → Int32 → fS → Option (Int32 × fS)
  | 0, _, _, _ => none
  | n21 + 1, x2, x3, σ =>
    Gd (fin p1 8) (
      if (σ.1 62 (p1).toNatClampNeg) ≤ x3 then (
        some (x2, σ)
      ) else (
        Lt (x3 + (1 : Int32)) fun v34 =>
          Bd (lp_X8_layForm_36 N p1 x3 N x2 v34 σ) fun o36 σl36 =>
            lp_X8_layForm_21 N p1 n21 o36 (x3 + (1 : Int32)) σl36
      )
    )
def g_X8_layForm (N : Nat) (a1 : Int32) (σ : fS) : Option fS :=
  Gd (fin a1 8) (
    if (σ.1 64 (a1).toNatClampNeg) = 0 then (
      Gd (fin a1 8) (
      Lt (sI σ 64 (a1).toNatClampNeg (1 : Int32)) fun σ16 =>
        Bd (lp_X8_layForm_21 N a1 N (0 : Int32) (0 : Int32) σ16) fun o21 σl21 =>
          Gd (fin a1 8) (
          Lt (sI σl21 65 (a1).toNatClampNeg o21) fun σ93 =>
            Bv (g_X8_lookAt N a1 σ93) fun σ96 =>
              Bd (g_X8_barsNow N σ96) fun r105 σ105 =>
                Gd (fin a1 8) (
                Lt (sI σ105 66 (a1).toNatClampNeg r105) fun σ108 =>
                  some σ108
                )
          )
      )
    ) else (
      some σ
    )
  )
def g_X8_lookMore (N : Nat) (a1 : Int32) (σ : fS) : Option fS :=
  Gd (fin (σ.1 61 21) 5) (
  Lt (sI σ 77 ((σ.1 61 21)).toNatClampNeg (a1 ^^^ (1 : Int32))) fun σ11 =>
    Lt (sI σ11 61 21 ((σ11.1 61 21) + (1 : Int32))) fun σ19 =>
      some σ19
  )
def g_X8_hasseOf (N : Nat) (a1 : Int32) (σ : fS) : Option (Int32 × fS) :=
  Bv (g_X8_layForm N a1 σ) fun σ2 =>
    Gd (fin a1 8) (
      some ((σ2.1 65 (a1).toNatClampNeg), σ2)
    )
def g_X8_barsOf (N : Nat) (a1 : Int32) (σ : fS) : Option (Int32 × fS) :=
  Bv (g_X8_layForm N a1 σ) fun σ2 =>
    Gd (fin a1 8) (
      some ((σ2.1 66 (a1).toNatClampNeg), σ2)
    )
def lp_X8_above_4 (N : Nat) (p1 : Int32) : Nat → Int32 → Int32 → fS → Option (Int32 × fS)
  | 0, _, _, _ => none
  | n4 + 1, x2, x3, σ =>
    Gd (fin p1 8) (
      if (σ.1 62 (p1).toNatClampNeg) ≤ x3 then (
        some (x2, σ)
      ) else (
        Gd (fin (((4 : Int32) * p1) + x3) 32) (
          Bd (g_X8_isIn N (σ.1 63 ((((4 : Int32) * p1) + x3)).toNatClampNeg) (0 : Int32) σ) fun r26 σ26 =>
            if r26 = 0 then (
              Lt (x2 + (1 : Int32)) fun v38 =>
                lp_X8_above_4 N p1 n4 v38 (x3 + (1 : Int32)) σ26
            ) else (
              Lt (x2 + (0 : Int32)) fun v38 =>
                lp_X8_above_4 N p1 n4 v38 (x3 + (1 : Int32)) σ26
            )
        )
      )
    )
def g_X8_above (N : Nat) (a1 : Int32) (σ : fS) : Option (Int32 × fS) :=
  Bd (lp_X8_above_4 N a1 N (0 : Int32) (0 : Int32) σ) fun o4 σl4 =>
    some (o4, σl4)
def lp_X8_det_4 (N : Nat) (p1 : Int32) : Nat → Int32 → Int32 → fS → Option (Int32 × fS)
  | 0, _, _, _ => none
  | n4 + 1, x2, x3, σ =>
    Gd (fin p1 8) (
      if (σ.1 62 (p1).toNatClampNeg) ≤ x3 then (
        some (x2, σ)
      ) else (
        Gd (fin (((4 : Int32) * p1) + x3) 32) (
          Lt (x2 ^^^ (σ.1 63 ((((4 : Int32) * p1) + x3)).toNatClampNeg)) fun v26 =>
            lp_X8_det_4 N p1 n4 v26 (x3 + (1 : Int32)) σ
        )
      )
    )
def g_X8_det (N : Nat) (a1 : Int32) (σ : fS) : Option (Int32 × fS) :=
  Bd (lp_X8_det_4 N a1 N (0 : Int32) (0 : Int32) σ) fun o4 σl4 =>
    some (o4, σl4)
def g_X8_planes (N : Nat) (a1 : Int32) (σ : fS) : Option (Int32 × fS) :=
  Bd (g_X8_barsOf N a1 σ) fun r2 σ2 =>
    if r2 = 0 then (
      Gd (fin a1 8) (
        if (σ2.1 62 (a1).toNatClampNeg) = (4 : Int32) then (
          Bd (g_X8_det N a1 σ2) fun r22 σ22 =>
            if r22 = 0 then (
              some ((2 : Int32), σ22)
            ) else (
              some ((1 : Int32), σ22)
            )
        ) else (
          some ((1 : Int32), σ2)
        )
      )
    ) else (
      some ((0 : Int32), σ2)
    )
def g_X8_restDet (N : Nat) (a1 : Int32) (σ : fS) : Option (Int32 × fS) :=
  Bd (g_X8_planes N a1 σ) fun r2 σ2 =>
    if r2 = (1 : Int32) then (
      Bd (g_X8_det N a1 σ2) fun r11 σ11 =>
        some ((r11 ^^^ (1 : Int32)), σ11)
    ) else (
      Bd (g_X8_det N a1 σ2) fun r21 σ21 =>
        some (r21, σ21)
    )
def g_X8_restHasse (N : Nat) (a1 : Int32) (σ : fS) : Option (Int32 × fS) :=
  Bd (g_X8_planes N a1 σ) fun r2 σ2 =>
    if r2 = 0 then (
      Bd (g_X8_hasseOf N a1 σ2) fun r12 σ12 =>
        some (r12, σ12)
    ) else (
      Gd (fin a1 8) (
        if (σ2.1 62 (a1).toNatClampNeg) = ((2 : Int32) * r2) then (
          some ((0 : Int32), σ2)
        ) else (
          Bd (g_X8_hasseOf N a1 σ2) fun r34 σ34 =>
            Bd (g_X8_restDet N a1 σ34) fun r41 σ41 =>
              Bd (g_X8_unlike N (1 : Int32) r41 σ41) fun r44 σ44 =>
                some ((r34 ^^^ r44), σ44)
        )
      )
    )
def g_X8_isLikeAt (N : Nat) (a1 : Int32) (a2 : Int32) (a3 : Int32) (σ : fS) : Option (Int32 × fS) :=
  if a3 = 0 then (
    Bd (g_X8_above N a1 σ) fun r6 σ6 =>
      Bd (g_X8_above N a2 σ6) fun r11 σ11 =>
        if r6 = r11 then (
          some ((1 : Int32), σ11)
        ) else (
          some ((0 : Int32), σ11)
        )
  ) else (
    Bd (g_X8_hasseOf N a1 σ) fun r25 σ25 =>
      Bd (g_X8_isIn N r25 a3 σ25) fun r29 σ29 =>
        Bd (g_X8_hasseOf N a2 σ29) fun r34 σ34 =>
          Bd (g_X8_isIn N r34 a3 σ34) fun r38 σ38 =>
            if r29 = r38 then (
              Bd (g_X8_det N a1 σ38) fun r46 σ46 =>
                Bd (g_X8_det N a2 σ46) fun r51 σ51 =>
                  Bd (g_X8_isSquare N (r46 ^^^ r51) a3 σ51) fun r56 σ56 =>
                    if r56 = 0 then (
                      some ((0 : Int32), σ56)
                    ) else (
                      some ((1 : Int32), σ56)
                    )
            ) else (
              some ((0 : Int32), σ38)
            )
  )
def lp_X8_unlikeOf_5 (N : Nat) (p1 : Int32) (p2 : Int32) : Nat → Int32 → Int32 → fS → Option (Int32 × fS)
  | 0, _, _, _ => none
  | n5 + 1, x3, x4, σ =>
    if (7 : Int32) ≤ x4 then (
      some (x3, σ)
    ) else (
      Gd (fin p1 8) (
        Gd (fin p2 8) (
          if (σ.1 62 (p1).toNatClampNeg) = (σ.1 62 (p2).toNatClampNeg) then (
            Bd (g_X8_isLikeAt N p1 p2 x4 σ) fun r33 σ33 =>
              if r33 = 0 then (
                Lt (x3 ||| ((1 : Int32) <<< (x4 &&& (31 : Int32)))) fun v48 =>
                  lp_X8_unlikeOf_5 N p1 p2 n5 v48 (x4 + (1 : Int32)) σ33
              ) else (
                Lt (x3 ||| (0 : Int32)) fun v48 =>
                  lp_X8_unlikeOf_5 N p1 p2 n5 v48 (x4 + (1 : Int32)) σ33
              )
          ) else (
            Lt (x3 ||| ((1 : Int32) <<< (x4 &&& (31 : Int32)))) fun v48 =>
              lp_X8_unlikeOf_5 N p1 p2 n5 v48 (x4 + (1 : Int32)) σ
          )
        )
      )
    )
def g_X8_unlikeOf (N : Nat) (a1 : Int32) (a2 : Int32) (σ : fS) : Option (Int32 × fS) :=
  Bd (lp_X8_unlikeOf_5 N a1 a2 N (0 : Int32) (0 : Int32) σ) fun o5 σl5 =>
    some (o5, σl5)
def lp_X8_leastLike_2 (N : Nat) (p1 : Int32) : Nat → Int32 → fS → Option (Int32 × fS)
  | 0, _, _ => none
  | n2 + 1, x2, σ =>
    if p1 ≤ x2 then (
      some (x2, σ)
    ) else (
      Gd (fin x2 8) (
        if (σ.1 62 (x2).toNatClampNeg) = 0 then (
          lp_X8_leastLike_2 N p1 n2 (x2 + (1 : Int32)) σ
        ) else (
          Bd (g_X8_unlikeOf N x2 p1 σ) fun r19 σ19 =>
            if r19 = 0 then (
              some (x2, σ19)
            ) else (
              lp_X8_leastLike_2 N p1 n2 (x2 + (1 : Int32)) σ19
            )
        )
      )
    )
def g_X8_leastLike (N : Nat) (a1 : Int32) (σ : fS) : Option (Int32 × fS) :=
  Bd (lp_X8_leastLike_2 N a1 N (0 : Int32) σ) fun o2 σl2 =>
    some (o2, σl2)
def g_X8_aboutNow (N : Nat) (a1 : Int32) (a2 : Int32) (σ : fS) : Option (Int32 × fS) :=
  if a2 = 0 then (
    Gd (fin a1 8) (
      some ((σ.1 62 (a1).toNatClampNeg), σ)
    )
  ) else (
    if a2 = 1 then (
      Bd (g_X8_above N a1 σ) fun r57 σ57 =>
        some (r57, σ57)
    ) else (
      if a2 = 2 then (
        Bd (g_X8_det N a1 σ) fun r63 σ63 =>
          some (r63, σ63)
      ) else (
        if a2 = 3 then (
          Bd (g_X8_hasseOf N a1 σ) fun r69 σ69 =>
            some (r69, σ69)
        ) else (
          if a2 = 4 then (
            Bd (g_X8_barsOf N a1 σ) fun r75 σ75 =>
              some (r75, σ75)
          ) else (
            if a2 = 5 then (
              Bd (g_X8_planes N a1 σ) fun r81 σ81 =>
                some (r81, σ81)
            ) else (
              if a2 = 6 then (
                Bd (g_X8_restDet N a1 σ) fun r87 σ87 =>
                  some (r87, σ87)
              ) else (
                if a2 = 7 then (
                  Bd (g_X8_restHasse N a1 σ) fun r93 σ93 =>
                    some (r93, σ93)
                ) else (
                  Bd (g_X8_leastLike N a1 σ) fun r99 σ99 =>
                    some (r99, σ99)
                )
              )
            )
          )
        )
      )
    )
  )
def g_X8_about (N : Nat) (a1 : Int32) (a2 : Int32) (σ : fS) : Option (Int32 × fS) :=
  Bd (g_X8_isForm N a1 σ) fun r2 σ2 =>
    if r2 = 0 then (
      some ((-101 : Int32), σ2)
    ) else (
      Bd (g_X8_within N a2 (0 : Int32) (8 : Int32) σ2) fun r17 σ17 =>
        if r17 = 0 then (
          some ((-102 : Int32), σ17)
        ) else (
          Bd (g_X8_aboutNow N a1 a2 σ17) fun r26 σ26 =>
            some (r26, σ26)
        )
    )
def g_X8_like (N : Nat) (a1 : Int32) (a2 : Int32) (σ : fS) : Option (Int32 × fS) :=
  Bd (g_X8_isForm N a1 σ) fun r2 σ2 =>
    if r2 = 0 then (
      some ((-101 : Int32), σ2)
    ) else (
      Bd (g_X8_isForm N a2 σ2) fun r10 σ10 =>
        if r10 = 0 then (
          some ((-101 : Int32), σ10)
        ) else (
          Bd (g_X8_unlikeOf N a1 a2 σ10) fun r19 σ19 =>
            some (r19, σ19)
        )
    )
def g_X8_meetsNow (N : Nat) (a1 : Int32) (a2 : Int32) (σ : fS) : Option (Int32 × fS) :=
  Bv (g_X8_lookAt N a1 σ) fun σ2 =>
    Bd (g_X8_kindOf N a2 σ2) fun r7 σ7 =>
      Bv (g_X8_lookMore N r7 σ7) fun σ10 =>
        Bd (g_X8_barsNow N σ10) fun r14 σ14 =>
          some (r14, σ14)
def g_X8_meets (N : Nat) (a1 : Int32) (a2 : Int32) (σ : fS) : Option (Int32 × fS) :=
  Bd (g_X8_isForm N a1 σ) fun r2 σ2 =>
    if r2 = 0 then (
      some ((-101 : Int32), σ2)
    ) else (
      Bd (g_X8_isNumber N a2 σ2) fun r14 σ14 =>
        if r14 = 0 then (
          some ((-102 : Int32), σ14)
        ) else (
          Bd (g_X8_meetsNow N a1 a2 σ14) fun r23 σ23 =>
            some (r23, σ23)
        )
    )
def lp_X8_goesOn_7 (N : Nat) (p1 : Int32) : Nat → Int32 → fS → Option (Int32 × fS)
  | 0, _, _ => none
  | n7 + 1, x2, σ =>
    if x2 < 0 then (
      some (x2, σ)
    ) else (
      Gd (fin x2 5) (
        if (σ.1 83 (x2).toNatClampNeg) = p1 then (
          Gd (fin x2 5) (
          Lt (sI σ 83 (x2).toNatClampNeg (0 : Int32)) fun σ27 =>
            lp_X8_goesOn_7 N p1 n7 (x2 + (-1 : Int32)) σ27
          )
        ) else (
          some (x2, σ)
        )
      )
    )
def g_X8_goesOn (N : Nat) (a1 : Int32) (σ : fS) : Option (Int32 × fS) :=
  Lt ((σ.1 61 21) - (1 : Int32)) fun v6 =>
    Bd (lp_X8_goesOn_7 N a1 N v6 σ) fun o7 σl7 =>
      Bv (
        if o7 < 0 then (
          some σl7
        ) else (
          Gd (fin o7 5) (
            Gd (fin o7 5) (
            Lt (sI σl7 83 (o7).toNatClampNeg ((σl7.1 83 (o7).toNatClampNeg) + (1 : Int32))) fun σ47 =>
              some σ47
            )
          )
        )
      ) fun σj35 =>
        if o7 < 0 then (
          some ((0 : Int32), σj35)
        ) else (
          some ((1 : Int32), σj35)
        )
def lp_X8_comesToNothing_7 (N : Nat) (p1 : Int32) : Nat → Int32 → Int32 → Int32 → fS → Option ((Int32 × Int32) × fS)
  | 0, _, _, _, _ => none
  | n7 + 1, x2, x3, x4, σ =>
    if (σ.1 61 21) ≤ x4 then (
      some ((x2, x3), σ)
    ) else (
      Gd (fin x4 5) (
        Gd (fin x4 5) (
          Gd (fin x4 5) (
            Lt (x2 + (((σ.1 84 (x4).toNatClampNeg) * (σ.1 83 (x4).toNatClampNeg)) * (σ.1 83 (x4).toNatClampNeg))) fun v41 =>
              if x3 = 0 then (
                Gd (fin x4 5) (
                  if (σ.1 83 (x4).toNatClampNeg) = p1 then (
                    lp_X8_comesToNothing_7 N p1 n7 v41 (1 : Int32) (x4 + (1 : Int32)) σ
                  ) else (
                    lp_X8_comesToNothing_7 N p1 n7 v41 (0 : Int32) (x4 + (1 : Int32)) σ
                  )
                )
              ) else (
                lp_X8_comesToNothing_7 N p1 n7 v41 (1 : Int32) (x4 + (1 : Int32)) σ
              )
          )
        )
      )
    )
def g_X8_comesToNothing (N : Nat) (a1 : Int32) (σ : fS) : Option (Int32 × fS) :=
  Bd (lp_X8_comesToNothing_7 N a1 N (0 : Int32) (0 : Int32) (0 : Int32) σ) fun o7 σl7 =>
    if o7.2 = 0 then (
      some ((0 : Int32), σl7)
    ) else (
      if o7.1 = 0 then (
        some ((1 : Int32), σl7)
      ) else (
        some ((0 : Int32), σl7)
      )
    )
def lp_X8_findBy_2 (N : Nat) (p1 : Int32) (p2 : Int32) : Nat → Int32 → fS → Option fS
  | 0, _, _ => none
  | n2 + 1, x3, σ =>
    if (σ.1 61 21) ≤ x3 then (
      some σ
    ) else (
      Gd (fin x3 5) (
      Lt (sI σ 83 (x3).toNatClampNeg (0 : Int32)) fun σ16 =>
        lp_X8_findBy_2 N p1 p2 n2 (x3 + (1 : Int32)) σ16
      )
    )
def lp_X8_findBy_23 (N : Nat) (p1 : Int32) (p2 : Int32) : Nat → fS → Option ((Int32 × fS) ⊕ (Unit × fS))
  | 0, _ => none
  | n23 + 1, σ =>
    Bd (g_X8_goesOn N p1 σ) fun r25 σ25 =>
      if r25 = 0 then (
        some (.inr ((), σ25))
      ) else (
        Bd (g_X8_comesToNothing N p1 σ25) fun r33 σ33 =>
          if r33 = 0 then (
            lp_X8_findBy_23 N p1 p2 n23 σ33
          ) else (
            if p2 = 0 then (
              some (.inl ((1 : Int32), σ33))
            ) else (
              Gd (fin ((σ33.1 61 21) - (1 : Int32)) 5) (
                if (σ33.1 83 (((σ33.1 61 21) - (1 : Int32))).toNatClampNeg) ≤ 0 then (
                  lp_X8_findBy_23 N p1 p2 n23 σ33
                ) else (
                  some (.inl ((1 : Int32), σ33))
                )
              )
            )
          )
      )
def g_X8_findBy (N : Nat) (a1 : Int32) (a2 : Int32) (σ : fS) : Option (Int32 × fS) :=
  Bv (lp_X8_findBy_2 N a1 a2 N (0 : Int32) σ) fun σl2 =>
    Bs (lp_X8_findBy_23 N a1 a2 N σl2) fun o23 σl23 =>
      some ((0 : Int32), σl23)
def lp_X8_find_2 (N : Nat) (p1 : Int32) (p2 : Int32) : Nat → Int32 → fS → Option fS
  | 0, _, _ => none
  | n2 + 1, x3, σ =>
    if (σ.1 61 21) ≤ x3 then (
      some σ
    ) else (
      Gd (fin x3 5) (
        Bd (g_X8_coreOf N (σ.1 77 (x3).toNatClampNeg) σ) fun r21 σ21 =>
          Gd (fin x3 5) (
          Lt (sI σ21 84 (x3).toNatClampNeg r21) fun σ24 =>
            lp_X8_find_2 N p1 p2 n2 (x3 + (1 : Int32)) σ24
          )
      )
    )
def lp_X8_find_33 (N : Nat) (p1 : Int32) (p2 : Int32) : Nat → Int32 → fS → Option ((Int32 × fS) ⊕ (Unit × fS))
  | 0, _, _ => none
  | n33 + 1, x3, σ =>
    if p1 < x3 then (
      some (.inr ((), σ))
    ) else (
      Bd (g_X8_findBy N x3 p2 σ) fun r41 σ41 =>
        if r41 = 0 then (
          lp_X8_find_33 N p1 p2 n33 (x3 + (1 : Int32)) σ41
        ) else (
          some (.inl ((1 : Int32), σ41))
        )
    )
def g_X8_find (N : Nat) (a1 : Int32) (a2 : Int32) (σ : fS) : Option (Int32 × fS) :=
  Bv (lp_X8_find_2 N a1 a2 N (0 : Int32) σ) fun σl2 =>
    Bs (lp_X8_find_33 N a1 a2 N (1 : Int32) σl2) fun o33 σl33 =>
      some ((0 : Int32), σl33)
def g_X8_row (N : Nat) (a1 : Int32) (a2 : Int32) (σ : fS) : Option (Int32 × fS) :=
  Bd (g_X8_isTerm N a1 a2 σ) fun r3 σ3 =>
    if r3 = 0 then (
      some ((-101 : Int32), σ3)
    ) else (
      Bv (g_X8_lookAt N a1 σ3) fun σ14 =>
        Bd (g_X8_find N (15 : Int32) (0 : Int32) σ14) fun r21 σ21 =>
          if r21 = 0 then (
            some ((-1 : Int32), σ21)
          ) else (
            Gd (fin a2 5) (
              some ((σ21.1 83 (a2).toNatClampNeg), σ21)
            )
          )
    )
def g_X8_way (N : Nat) (a1 : Int32) (a2 : Int32) (a3 : Int32) (σ : fS) : Option (Int32 × fS) :=
  Bd (g_X8_isForm N a1 σ) fun r2 σ2 =>
    if r2 = 0 then (
      some ((-101 : Int32), σ2)
    ) else (
      Gd (fin a1 8) (
        Bd (g_X8_within N a3 (0 : Int32) (σ2.1 62 (a1).toNatClampNeg) σ2) fun r16 σ16 =>
          if r16 = 0 then (
            some ((-101 : Int32), σ16)
          ) else (
            Bd (g_X8_isNumber N a2 σ16) fun r26 σ26 =>
              if r26 = 0 then (
                some ((-102 : Int32), σ26)
              ) else (
                Bv (g_X8_lookAt N a1 σ26) fun σ37 =>
                  Bd (g_X8_kindOf N a2 σ37) fun r42 σ42 =>
                    Bv (g_X8_lookMore N r42 σ42) fun σ45 =>
                      Bd (g_X8_find N (9 : Int32) (1 : Int32) σ45) fun r52 σ52 =>
                        if r52 = 0 then (
                          some ((-1 : Int32), σ52)
                        ) else (
                          Gd (fin a3 5) (
                            some ((σ52.1 83 (a3).toNatClampNeg), σ52)
                          )
                        )
              )
          )
      )
    )
def g_X8_clear (N : Nat) (a1 : Int32) (σ : fS) : Option (Int32 × fS) :=
  Bd (g_X8_isForm N a1 σ) fun r2 σ2 =>
    if r2 = 0 then (
      some ((-101 : Int32), σ2)
    ) else (
      Gd (fin a1 8) (
        Lt (σ2.1 62 (a1).toNatClampNeg) fun v17 =>
          Lt (sI σ2 61 28 (0 : Int32)) fun σ20 =>
            Bd (g_X8_layNew N a1 σ20) fun r25 σ25 =>
              some (v17, σ25)
      )
    )
def lp_X8_join_54 (N : Nat) (p2 : Int32) (p3 : Int32) : Nat → Int32 → fS → Option fS
  | 0, _, _ => none
  | n54 + 1, x4, σ =>
    Gd (fin p2 8) (
      if (σ.1 62 (p2).toNatClampNeg) ≤ x4 then (
        some σ
      ) else (
        Gd (fin (((4 : Int32) * p2) + x4) 32) (
          Gd (fin (σ.1 61 28) 4) (
          Lt (sI σ 82 ((σ.1 61 28)).toNatClampNeg (σ.1 63 ((((4 : Int32) * p2) + x4)).toNatClampNeg)) fun σ84 =>
            Lt (sI σ84 61 28 ((σ84.1 61 28) + (1 : Int32))) fun σ92 =>
              lp_X8_join_54 N p2 p3 n54 (x4 + (1 : Int32)) σ92
          )
        )
      )
    )
def g_X8_join (N : Nat) (a1 : Int32) (a2 : Int32) (a3 : Int32) (σ : fS) : Option (Int32 × fS) :=
  Bd (g_X8_isForm N a1 σ) fun r2 σ2 =>
    if r2 = 0 then (
      some ((-101 : Int32), σ2)
    ) else (
      Bd (g_X8_isForm N a2 σ2) fun r10 σ10 =>
        if r10 = 0 then (
          some ((-101 : Int32), σ10)
        ) else (
          Bd (g_X8_isShelf N a3 σ10) fun r17 σ17 =>
            if r17 = 0 then (
              some ((-101 : Int32), σ17)
            ) else (
              Gd (fin a1 8) (
                Gd (fin a2 8) (
                  if ((σ17.1 62 (a1).toNatClampNeg) + (σ17.1 62 (a2).toNatClampNeg)) ≤ (4 : Int32) then (
                    Bv (g_X8_take N a1 σ17) fun σ48 =>
                      Bv (lp_X8_join_54 N a2 a3 N (0 : Int32) σ48) fun σl54 =>
                        Bd (g_X8_layNew N a3 σl54) fun r103 σ103 =>
                          some (r103, σ103)
                  ) else (
                    some ((-104 : Int32), σ17)
                  )
                )
              )
            )
        )
    )
def lp_X8_times_66 (N : Nat) (p1 : Int32) (p2 : Int32) (p3 : Int32) : Nat → Int32 → fS → Option fS
  | 0, _, _ => none
  | n66 + 1, x4, σ =>
    if (σ.1 61 28) ≤ x4 then (
      some σ
    ) else (
      Gd (fin p2 8) (
        Gd (nz (σ.1 62 (p2).toNatClampNeg)) (
          Gd (fin (((4 : Int32) * p1) + (x4 / (σ.1 62 (p2).toNatClampNeg))) 32) (
            Gd (fin p2 8) (
              Gd (nz (σ.1 62 (p2).toNatClampNeg)) (
                Gd (fin (((4 : Int32) * p2) + (iR x4 (σ.1 62 (p2).toNatClampNeg))) 32) (
                  Gd (fin x4 4) (
                  Lt (sI σ 82 (x4).toNatClampNeg ((σ.1 63 ((((4 : Int32) * p1) + (x4 / (σ.1 62 (p2).toNatClampNeg)))).toNatClampNeg) ^^^ (σ.1 63 ((((4 : Int32) * p2) + (iR x4 (σ.1 62 (p2).toNatClampNeg)))).toNatClampNeg))) fun σ118 =>
                    lp_X8_times_66 N p1 p2 p3 n66 (x4 + (1 : Int32)) σ118
                  )
                )
              )
            )
          )
        )
      )
    )
def g_X8_times (N : Nat) (a1 : Int32) (a2 : Int32) (a3 : Int32) (σ : fS) : Option (Int32 × fS) :=
  Bd (g_X8_isForm N a1 σ) fun r2 σ2 =>
    if r2 = 0 then (
      some ((-101 : Int32), σ2)
    ) else (
      Bd (g_X8_isForm N a2 σ2) fun r10 σ10 =>
        if r10 = 0 then (
          some ((-101 : Int32), σ10)
        ) else (
          Bd (g_X8_isShelf N a3 σ10) fun r17 σ17 =>
            if r17 = 0 then (
              some ((-101 : Int32), σ17)
            ) else (
              Gd (fin a1 8) (
                Gd (fin a2 8) (
                  if ((σ17.1 62 (a1).toNatClampNeg) * (σ17.1 62 (a2).toNatClampNeg)) ≤ (4 : Int32) then (
                    Gd (fin a1 8) (
                      Gd (fin a2 8) (
                        Lt (sI σ17 61 28 ((σ17.1 62 (a1).toNatClampNeg) * (σ17.1 62 (a2).toNatClampNeg))) fun σ60 =>
                          Bv (lp_X8_times_66 N a1 a2 a3 N (0 : Int32) σ60) fun σl66 =>
                            Bd (g_X8_layNew N a3 σl66) fun r127 σ127 =>
                              some (r127, σ127)
                      )
                    )
                  ) else (
                    some ((-104 : Int32), σ17)
                  )
                )
              )
            )
        )
    )
def lp_X8_scale_28 (N : Nat) (p1 : Int32) (p2 : Int32) : Nat → Int32 → fS → Option fS
  | 0, _, _ => none
  | n28 + 1, x3, σ =>
    if (σ.1 61 28) ≤ x3 then (
      some σ
    ) else (
      Gd (fin x3 4) (
        Bd (g_X8_kindOf N p2 σ) fun r44 σ44 =>
          Gd (fin x3 4) (
          Lt (sI σ44 82 (x3).toNatClampNeg ((σ.1 82 (x3).toNatClampNeg) ^^^ r44)) fun σ48 =>
            lp_X8_scale_28 N p1 p2 n28 (x3 + (1 : Int32)) σ48
          )
      )
    )
def g_X8_scale (N : Nat) (a1 : Int32) (a2 : Int32) (σ : fS) : Option (Int32 × fS) :=
  Bd (g_X8_isForm N a1 σ) fun r2 σ2 =>
    if r2 = 0 then (
      some ((-101 : Int32), σ2)
    ) else (
      Bd (g_X8_isNumber N a2 σ2) fun r12 σ12 =>
        if r12 = 0 then (
          some ((-102 : Int32), σ12)
        ) else (
          Bv (g_X8_take N a1 σ12) fun σ23 =>
            Bv (lp_X8_scale_28 N a1 a2 N (0 : Int32) σ23) fun σl28 =>
              Bd (g_X8_layNew N a1 σl28) fun r57 σ57 =>
                Bd (g_X8_det N a1 σ57) fun r63 σ63 =>
                  some (r63, σ63)
        )
    )
def lp_X8_isSquared_2 (N : Nat) (p0 : Int32) : Nat → Int32 → fS → Option (Int32 × fS)
  | 0, _, _ => none
  | n2 + 1, x1, σ =>
    if (4000 : Int32) ≤ x1 then (
      some (x1, σ)
    ) else (
      if p0 ≤ (x1 * x1) then (
        some (x1, σ)
      ) else (
        lp_X8_isSquared_2 N p0 n2 (x1 + (1 : Int32)) σ
      )
    )
def g_X8_isSquared (N : Nat) (a0 : Int32) (σ : fS) : Option (Int32 × fS) :=
  Bd (lp_X8_isSquared_2 N a0 N (0 : Int32) σ) fun o2 σl2 =>
    if (o2 * o2) = a0 then (
      some ((1 : Int32), σl2)
    ) else (
      some ((0 : Int32), σl2)
    )
def g_X8_turn (N : Nat) (a1 : Int32) (a2 : Int32) (a3 : Int32) (a4 : Int32) (a5 : Int32) (σ : fS) : Option (Int32 × fS) :=
  Bd (g_X8_isTerm N a1 a2 σ) fun r3 σ3 =>
    if r3 = 0 then (
      some ((-101 : Int32), σ3)
    ) else (
      Bd (g_X8_isTerm N a1 a3 σ3) fun r12 σ12 =>
        if r12 = 0 then (
          some ((-101 : Int32), σ12)
        ) else (
          Bd (g_X8_within N a4 (0 : Int32) (15 : Int32) σ12) fun r26 σ26 =>
            if r26 = 0 then (
              some ((-102 : Int32), σ26)
            ) else (
              Bd (g_X8_within N a5 (0 : Int32) (15 : Int32) σ26) fun r37 σ37 =>
                if r37 = 0 then (
                  some ((-102 : Int32), σ37)
                ) else (
                  Gd (fin (((4 : Int32) * a1) + a2) 32) (
                    Lt (σ37.1 63 ((((4 : Int32) * a1) + a2)).toNatClampNeg) fun v56 =>
                      Gd (fin (((4 : Int32) * a1) + a3) 32) (
                        Lt (σ37.1 63 ((((4 : Int32) * a1) + a3)).toNatClampNeg) fun v68 =>
                          Bd (g_X8_coreOf N v56 σ37) fun r72 σ72 =>
                            Bd (g_X8_coreOf N v68 σ72) fun r83 σ83 =>
                              Lt (((r72 * a4) * a4) + ((r83 * a5) * a5)) fun v93 =>
                                if a2 = a3 then (
                                  some ((-103 : Int32), σ83)
                                ) else (
                                  if v93 = 0 then (
                                    some ((-103 : Int32), σ83)
                                  ) else (
                                    Bd (g_X8_kindOf N v93 σ83) fun r109 σ109 =>
                                      Bd (g_X8_coreOf N r109 σ109) fun r112 σ112 =>
                                        Gd (nz r112) (
                                          Bd (g_X8_isSquared N (v93 / r112) σ112) fun r116 σ116 =>
                                            if r116 = 0 then (
                                              some ((-103 : Int32), σ116)
                                            ) else (
                                              Bv (g_X8_take N a1 σ116) fun σ127 =>
                                                Bd (g_X8_kindOf N v93 σ127) fun r137 σ137 =>
                                                  Gd (fin a2 4) (
                                                  Lt (sI σ137 82 (a2).toNatClampNeg r137) fun σ140 =>
                                                    Bd (g_X8_kindOf N v93 σ140) fun r153 σ153 =>
                                                      Gd (fin a3 4) (
                                                      Lt (sI σ153 82 (a3).toNatClampNeg ((v56 ^^^ v68) ^^^ r153)) fun σ157 =>
                                                        Bd (g_X8_layNew N a1 σ157) fun r160 σ160 =>
                                                          Bd (g_X8_kindOf N v93 σ160) fun r166 σ166 =>
                                                            Bd (g_X8_coreOf N r166 σ166) fun r169 σ169 =>
                                                              some (r169, σ169)
                                                      )
                                                  )
                                            )
                                        )
                                  )
                                )
                      )
                  )
                )
            )
        )
    )
def lp_X8_drop_32 (N : Nat) (p1 : Int32) : Nat → Int32 → fS → Option fS
  | 0, _, _ => none
  | n32 + 1, x3, σ =>
    if ((σ.1 61 28) - (1 : Int32)) ≤ x3 then (
      some σ
    ) else (
      Gd (fin (x3 + (1 : Int32)) 4) (
        Gd (fin x3 4) (
        Lt (sI σ 82 (x3).toNatClampNeg (σ.1 82 ((x3 + (1 : Int32))).toNatClampNeg)) fun σ55 =>
          lp_X8_drop_32 N p1 n32 (x3 + (1 : Int32)) σ55
        )
      )
    )
def g_X8_drop (N : Nat) (a1 : Int32) (a2 : Int32) (σ : fS) : Option (Int32 × fS) :=
  Bd (g_X8_isTerm N a1 a2 σ) fun r3 σ3 =>
    if r3 = 0 then (
      some ((-101 : Int32), σ3)
    ) else (
      Gd (fin a1 8) (
        if (σ3.1 62 (a1).toNatClampNeg) = (1 : Int32) then (
          some ((-103 : Int32), σ3)
        ) else (
          Bv (g_X8_take N a1 σ3) fun σ27 =>
            Bv (lp_X8_drop_32 N a1 N a2 σ27) fun σl32 =>
              Lt (sI σl32 61 28 ((σl32.1 61 28) - (1 : Int32))) fun σ69 =>
                Bd (g_X8_layNew N a1 σ69) fun r74 σ74 =>
                  some (r74, σ74)
        )
      )
    )
def lp_X8_undo_57 (N : Nat) (p1 : Int32) : Nat → Int32 → fS → Option fS
  | 0, _, _ => none
  | n57 + 1, x2, σ =>
    if (4 : Int32) ≤ x2 then (
      some σ
    ) else (
      Gd (fin (((4 : Int32) * (σ.1 61 7)) + x2) 48) (
        Gd (fin (((4 : Int32) * p1) + x2) 32) (
        Lt (sI σ 63 ((((4 : Int32) * p1) + x2)).toNatClampNeg (σ.1 70 ((((4 : Int32) * (σ.1 61 7)) + x2)).toNatClampNeg)) fun σ84 =>
          lp_X8_undo_57 N p1 n57 (x2 + (1 : Int32)) σ84
        )
      )
    )
def g_X8_undo (N : Nat)  (σ : fS) : Option (Int32 × fS) :=
  if (σ.1 61 7) = 0 then (
    some ((-103 : Int32), σ)
  ) else (
    Lt (sI σ 61 7 ((σ.1 61 7) - (1 : Int32))) fun σ17 =>
      Lt (sI σ17 61 12 ((σ17.1 61 12) + (1 : Int32))) fun σ27 =>
        Gd (fin (σ27.1 61 7) 12) (
          Lt (σ27.1 68 ((σ27.1 61 7)).toNatClampNeg) fun v39 =>
            Gd (fin (σ27.1 61 7) 12) (
              Gd (fin v39 8) (
              Lt (sI σ27 62 (v39).toNatClampNeg (σ27.1 69 ((σ27.1 61 7)).toNatClampNeg)) fun σ54 =>
                Bv (lp_X8_undo_57 N v39 N (0 : Int32) σ54) fun σl57 =>
                  Gd (fin v39 8) (
                  Lt (sI σl57 64 (v39).toNatClampNeg (0 : Int32)) fun σ97 =>
                    some (v39, σ97)
                  )
              )
            )
        )
  )
def lp_X8_common_13 (N : Nat) : Nat → Int32 → Int32 → fS → Option (Int32 × fS)
  | 0, _, _, _ => none
  | n13 + 1, x2, x3, σ =>
    if x3 = 0 then (
      some (x2, σ)
    ) else (
      Gd (nz x3) (
        Lt (iR x2 x3) fun v20 =>
          lp_X8_common_13 N n13 x3 v20 σ
      )
    )
def g_X8_common (N : Nat) (a0 : Int32) (a1 : Int32) (σ : fS) : Option (Int32 × fS) :=
  Bd (
    if 0 ≤ a1 then (
      some (a1, σ)
    ) else (
      some ((-a1), σ)
    )
  ) fun o3 σj3 =>
    Bd (lp_X8_common_13 N N a0 o3 σj3) fun o13 σl13 =>
      some (o13, σl13)
def g_X8_addPair (N : Nat) (a1 : Int32) (a2 : Int32) (σ : fS) : Option fS :=
  Lt ((σ.1 61 13) + (a2 * a2)) fun v8 =>
    Gd (nz ((4 : Int32) * a1)) (
      Lt (v8 / ((4 : Int32) * a1)) fun v14 =>
        Gd (nz ((4 : Int32) * a1)) (
          Bd (
            if (iR v8 ((4 : Int32) * a1)) = 0 then (
              if v14 < a1 then (
                some ((0 : Int32), σ)
              ) else (
                if a1 < v14 then (
                  some ((1 : Int32), σ)
                ) else (
                  if a2 < 0 then (
                    some ((0 : Int32), σ)
                  ) else (
                    some ((1 : Int32), σ)
                  )
                )
              )
            ) else (
              some ((0 : Int32), σ)
            )
          ) fun o21 σj21 =>
            if o21 = 0 then (
              some σj21
            ) else (
              Bd (g_X8_common N a1 a2 σj21) fun r54 σ54 =>
                Bd (g_X8_common N r54 v14 σ54) fun r59 σ59 =>
                  if r59 = (1 : Int32) then (
                    Gd (fin (σ59.1 61 14) 56) (
                    Lt (sI σ59 71 ((σ59.1 61 14)).toNatClampNeg a1) fun σ75 =>
                      Gd (fin (σ75.1 61 14) 56) (
                      Lt (sI σ75 72 ((σ75.1 61 14)).toNatClampNeg a2) fun σ85 =>
                        Gd (fin (σ85.1 61 14) 56) (
                        Lt (sI σ85 73 ((σ85.1 61 14)).toNatClampNeg v14) fun σ96 =>
                          Lt (sI σ96 61 14 ((σ96.1 61 14) + (1 : Int32))) fun σ104 =>
                            some σ104
                        )
                      )
                    )
                  ) else (
                    some σ59
                  )
            )
        )
    )
def lp_X8_layMet_2 (N : Nat) (p1 : Int32) : Nat → Int32 → fS → Option fS
  | 0, _, _ => none
  | n2 + 1, x2, σ =>
    if (σ.1 61 13) ≤ x2 then (
      some σ
    ) else (
      Gd (fin (((160 : Int32) * p1) + x2) 8960) (
      Lt (sI σ 76 ((((160 : Int32) * p1) + x2)).toNatClampNeg (0 : Int32)) fun σ22 =>
        lp_X8_layMet_2 N p1 n2 (x2 + (1 : Int32)) σ22
      )
    )
def lp_X8_layMet_41 (N : Nat) (p1 : Int32) (p2 : Int32) : Nat → Int32 → fS → Option fS
  | 0, _, _ => none
  | n41 + 1, x3, σ =>
    if (σ.1 61 13) ≤ x3 then (
      some σ
    ) else (
      Gd (fin p1 56) (
        Gd (fin p1 56) (
          Gd (fin p1 56) (
            Lt (((((σ.1 71 (p1).toNatClampNeg) * p2) * p2) + (((σ.1 72 (p1).toNatClampNeg) * p2) * x3)) + (((σ.1 73 (p1).toNatClampNeg) * x3) * x3)) fun v81 =>
              Gd (nz (σ.1 61 13)) (
                Lt (iR v81 (σ.1 61 13)) fun v90 =>
                  Gd (fin (((160 : Int32) * p1) + v90) 8960) (
                  Lt (sI σ 76 ((((160 : Int32) * p1) + v90)).toNatClampNeg (1 : Int32)) fun σ105 =>
                    lp_X8_layMet_41 N p1 p2 n41 (x3 + (1 : Int32)) σ105
                  )
              )
          )
        )
      )
    )
def lp_X8_layMet_31 (N : Nat) (p1 : Int32) : Nat → Int32 → fS → Option fS
  | 0, _, _ => none
  | n31 + 1, x2, σ =>
    if (σ.1 61 13) ≤ x2 then (
      some σ
    ) else (
      Bv (lp_X8_layMet_41 N p1 x2 N (0 : Int32) σ) fun σl41 =>
        lp_X8_layMet_31 N p1 n31 (x2 + (1 : Int32)) σl41
    )
def lp_X8_layMet_127 (N : Nat) (p1 : Int32) : Nat → Int32 → fS → Option fS
  | 0, _, _ => none
  | n127 + 1, x2, σ =>
    if (σ.1 61 13) ≤ x2 then (
      some σ
    ) else (
      Gd (fin (((160 : Int32) * p1) + x2) 8960) (
        Bd (
          if (σ.1 76 ((((160 : Int32) * p1) + x2)).toNatClampNeg) = 0 then (
            some ((0 : Int32), σ)
          ) else (
            Bd (g_X8_common N (σ.1 61 13) x2 σ) fun r166 σ166 =>
              if r166 = (1 : Int32) then (
                some ((1 : Int32), σ166)
              ) else (
                some ((0 : Int32), σ166)
              )
          )
        ) fun o158 σj158 =>
          Gd (fin (((160 : Int32) * p1) + x2) 8960) (
          Gd (isB o158) (
          Lt (sI σj158 76 ((((160 : Int32) * p1) + x2)).toNatClampNeg o158) fun σ178 =>
            Gd (fin p1 56) (
              Gd (fin (((160 : Int32) * p1) + x2) 8960) (
                Bd (
                  if (σ178.1 76 ((((160 : Int32) * p1) + x2)).toNatClampNeg) = 0 then (
                    some ((0 : Int32), σ178)
                  ) else (
                    some ((1 : Int32), σ178)
                  )
                ) fun o198 σj198 =>
                  Gd (fin p1 56) (
                  Lt (sI σj198 75 (p1).toNatClampNeg ((σ178.1 75 (p1).toNatClampNeg) + o198)) fun σ207 =>
                    lp_X8_layMet_127 N p1 n127 (x2 + (1 : Int32)) σ207
                  )
              )
            )
          )
          )
      )
    )
def g_X8_layMet (N : Nat) (a1 : Int32) (σ : fS) : Option fS :=
  Bv (lp_X8_layMet_2 N a1 N (0 : Int32) σ) fun σl2 =>
    Bv (lp_X8_layMet_31 N a1 N (0 : Int32) σl2) fun σl31 =>
      Gd (fin a1 56) (
      Lt (sI σl31 75 (a1).toNatClampNeg (0 : Int32)) fun σ124 =>
        Bv (lp_X8_layMet_127 N a1 N (0 : Int32) σ124) fun σl127 =>
          some σl127
      )
def lp_X8_isSame_5 (N : Nat) (p1 : Int32) (p2 : Int32) : Nat → Int32 → Int32 → fS → Option (Int32 × fS)
  | 0, _, _, _ => none
  | n5 + 1, x3, x4, σ =>
    if (σ.1 61 13) ≤ x4 then (
      some (x3, σ)
    ) else (
      if x3 = 0 then (
        lp_X8_isSame_5 N p1 p2 n5 (0 : Int32) (x4 + (1 : Int32)) σ
      ) else (
        Gd (fin (((160 : Int32) * p1) + x4) 8960) (
          Gd (fin (((160 : Int32) * p2) + x4) 8960) (
            if (σ.1 76 ((((160 : Int32) * p1) + x4)).toNatClampNeg) = (σ.1 76 ((((160 : Int32) * p2) + x4)).toNatClampNeg) then (
              lp_X8_isSame_5 N p1 p2 n5 (1 : Int32) (x4 + (1 : Int32)) σ
            ) else (
              lp_X8_isSame_5 N p1 p2 n5 (0 : Int32) (x4 + (1 : Int32)) σ
            )
          )
        )
      )
    )
def g_X8_isSame (N : Nat) (a1 : Int32) (a2 : Int32) (σ : fS) : Option (Int32 × fS) :=
  Bd (lp_X8_isSame_5 N a1 a2 N (1 : Int32) (0 : Int32) σ) fun o5 σl5 =>
    Gd (isB o5) (
    some (o5, σl5)
    )
def lp_X8_pairs_53 (N : Nat) (p1 : Int32) (p2 : Int32) : Nat → Int32 → fS → Option fS
  | 0, _, _ => none
  | n53 + 1, x3, σ =>
    if p2 < x3 then (
      some σ
    ) else (
      Bv (g_X8_addPair N p2 x3 σ) fun σ61 =>
        lp_X8_pairs_53 N p1 p2 n53 (x3 + (1 : Int32)) σ61
    )
def lp_X8_pairs_40 (N : Nat) (p1 : Int32) : Nat → Int32 → fS → Option fS
  | 0, _, _ => none
  | n40 + 1, x2, σ =>
    if p1 < (((3 : Int32) * x2) * x2) then (
      some σ
    ) else (
      Lt ((1 : Int32) - x2) fun v52 =>
        Bv (lp_X8_pairs_53 N p1 x2 N v52 σ) fun σl53 =>
          lp_X8_pairs_40 N p1 n40 (x2 + (1 : Int32)) σl53
    )
def lp_X8_pairs_98 (N : Nat) (p2 : Int32) : Nat → fS → Option fS
  | 0, _ => none
  | n98 + 1, σ =>
    Gd (fin p2 56) (
      Bd (g_X8_isSame N (σ.1 74 (p2).toNatClampNeg) p2 σ) fun r106 σ106 =>
        if r106 = 0 then (
          Gd (fin p2 56) (
            Gd (fin p2 56) (
            Lt (sI σ106 74 (p2).toNatClampNeg ((σ106.1 74 (p2).toNatClampNeg) + (1 : Int32))) fun σ121 =>
              lp_X8_pairs_98 N p2 n98 σ121
            )
          )
        ) else (
          some σ106
        )
    )
def lp_X8_pairs_78 (N : Nat) : Nat → Int32 → fS → Option fS
  | 0, _, _ => none
  | n78 + 1, x2, σ =>
    if (σ.1 61 14) ≤ x2 then (
      some σ
    ) else (
      Bv (g_X8_layMet N x2 σ) fun σ88 =>
        Gd (fin x2 56) (
        Lt (sI σ88 74 (x2).toNatClampNeg (0 : Int32)) fun σ97 =>
          Bv (lp_X8_pairs_98 N x2 N σ97) fun σl98 =>
            lp_X8_pairs_78 N n78 (x2 + (1 : Int32)) σl98
        )
    )
def g_X8_pairs (N : Nat) (a1 : Int32) (σ : fS) : Option (Int32 × fS) :=
  Bd (g_X8_within N a1 (3 : Int32) (160 : Int32) σ) fun r5 σ5 =>
    if r5 = 0 then (
      some ((-102 : Int32), σ5)
    ) else (
      if (iR a1 (4 : Int32)) = (1 : Int32) then (
        some ((-102 : Int32), σ5)
      ) else (
        if (iR a1 (4 : Int32)) = (2 : Int32) then (
          some ((-102 : Int32), σ5)
        ) else (
          Lt (sI σ5 61 13 a1) fun σ30 =>
            Lt (sI σ30 61 14 (0 : Int32)) fun σ35 =>
              Bv (lp_X8_pairs_40 N a1 N (1 : Int32) σ35) fun σl40 =>
                Bv (lp_X8_pairs_78 N N (0 : Int32) σl40) fun σl78 =>
                  some ((σl78.1 61 14), σl78)
        )
      )
    )
def g_X8_isPair (N : Nat) (a1 : Int32) (σ : fS) : Option (Int32 × fS) :=
  Bd (g_X8_within N a1 (0 : Int32) ((σ.1 61 14) - (1 : Int32)) σ) fun r8 σ8 =>
    Gd (isB r8) (
    some (r8, σ8)
    )
def g_X8_pairNow (N : Nat) (a1 : Int32) (a2 : Int32) (σ : fS) : Option (Int32 × fS) :=
  if a2 = 0 then (
    Gd (fin a1 56) (
      some ((σ.1 71 (a1).toNatClampNeg), σ)
    )
  ) else (
    if a2 = 1 then (
      Gd (fin a1 56) (
        some ((σ.1 72 (a1).toNatClampNeg), σ)
      )
    ) else (
      if a2 = 2 then (
        Gd (fin a1 56) (
          some ((σ.1 73 (a1).toNatClampNeg), σ)
        )
      ) else (
        if a2 = 3 then (
          Gd (fin a1 56) (
            some ((σ.1 74 (a1).toNatClampNeg), σ)
          )
        ) else (
          Gd (fin a1 56) (
            some ((σ.1 75 (a1).toNatClampNeg), σ)
          )
        )
      )
    )
  )
def g_X8_pair (N : Nat) (a1 : Int32) (a2 : Int32) (σ : fS) : Option (Int32 × fS) :=
  Bd (g_X8_isPair N a1 σ) fun r2 σ2 =>
    if r2 = 0 then (
      some ((-101 : Int32), σ2)
    ) else (
      Bd (g_X8_within N a2 (0 : Int32) (4 : Int32) σ2) fun r16 σ16 =>
        if r16 = 0 then (
          some ((-102 : Int32), σ16)
        ) else (
          Bd (g_X8_pairNow N a1 a2 σ16) fun r25 σ25 =>
            some (r25, σ25)
        )
    )
def g_X8_met (N : Nat) (a1 : Int32) (a2 : Int32) (σ : fS) : Option (Int32 × fS) :=
  Bd (g_X8_isPair N a1 σ) fun r2 σ2 =>
    if r2 = 0 then (
      some ((-101 : Int32), σ2)
    ) else (
      Bd (g_X8_within N a2 (0 : Int32) ((σ2.1 61 13) - (1 : Int32)) σ2) fun r19 σ19 =>
        if r19 = 0 then (
          some ((-102 : Int32), σ19)
        ) else (
          Gd (fin (((160 : Int32) * a1) + a2) 8960) (
            if (σ19.1 76 ((((160 : Int32) * a1) + a2)).toNatClampNeg) = 0 then (
              some ((0 : Int32), σ19)
            ) else (
              some ((1 : Int32), σ19)
            )
          )
        )
    )
def g_X8_lay (N : Nat) (a1 : Int32) (a2 : Int32) (σ : fS) : Option (Int32 × fS) :=
  Bd (g_X8_isPair N a1 σ) fun r2 σ2 =>
    if r2 = 0 then (
      some ((-101 : Int32), σ2)
    ) else (
      Bd (g_X8_isShelf N a2 σ2) fun r9 σ9 =>
        if r9 = 0 then (
          some ((-101 : Int32), σ9)
        ) else (
          Bd (g_X8_leftOf N (σ9.1 61 13) σ9) fun r22 σ22 =>
            if r22 = (1 : Int32) then (
              Lt (sI σ22 61 28 (2 : Int32)) fun σ34 =>
                Gd (fin a1 56) (
                  Bd (g_X8_kindOf N (σ34.1 71 (a1).toNatClampNeg) σ34) fun r48 σ48 =>
                    Gd (fin (0 : Int32) 4) (
                    Lt (sI σ48 82 ((0 : Int32)).toNatClampNeg r48) fun σ51 =>
                      Gd (fin a1 56) (
                        Bd (g_X8_kindOf N ((σ51.1 71 (a1).toNatClampNeg) * (σ51.1 61 13)) σ51) fun r68 σ68 =>
                          Gd (fin (1 : Int32) 4) (
                          Lt (sI σ68 82 ((1 : Int32)).toNatClampNeg r68) fun σ71 =>
                            Bd (g_X8_layNew N a2 σ71) fun r74 σ74 =>
                              Bd (g_X8_det N a2 σ74) fun r80 σ80 =>
                                some (r80, σ80)
                          )
                      )
                    )
                )
            ) else (
              some ((-103 : Int32), σ22)
            )
        )
    )
def lp_X8_shelves_4 (N : Nat) (p1 : Int32) : Nat → Int32 → Int32 → fS → Option (Int32 × fS)
  | 0, _, _, _ => none
  | n4 + 1, x2, x3, σ =>
    if (8 : Int32) ≤ x3 then (
      some (x2, σ)
    ) else (
      Gd (fin x3 8) (
        if (σ.1 62 (x3).toNatClampNeg) ≤ 0 then (
          lp_X8_shelves_4 N p1 n4 x2 (x3 + (1 : Int32)) σ
        ) else (
          if p1 = 0 then (
            Lt (x2 + (1 : Int32)) fun v57 =>
              lp_X8_shelves_4 N p1 n4 v57 (x3 + (1 : Int32)) σ
          ) else (
            if p1 = (1 : Int32) then (
              Gd (fin x3 8) (
                Lt (x2 + (σ.1 62 (x3).toNatClampNeg)) fun v57 =>
                  lp_X8_shelves_4 N p1 n4 v57 (x3 + (1 : Int32)) σ
              )
            ) else (
              Bd (g_X8_leastLike N x3 σ) fun r44 σ44 =>
                if r44 = x3 then (
                  Lt (x2 + (1 : Int32)) fun v57 =>
                    lp_X8_shelves_4 N p1 n4 v57 (x3 + (1 : Int32)) σ44
                ) else (
                  Lt (x2 + (0 : Int32)) fun v57 =>
                    lp_X8_shelves_4 N p1 n4 v57 (x3 + (1 : Int32)) σ44
                )
            )
          )
        )
      )
    )
def g_X8_shelves (N : Nat) (a1 : Int32) (σ : fS) : Option (Int32 × fS) :=
  Bd (lp_X8_shelves_4 N a1 N (0 : Int32) (0 : Int32) σ) fun o4 σl4 =>
    some (o4, σl4)
def lp_X8_genera_4 (N : Nat) : Nat → Int32 → Int32 → fS → Option (Int32 × fS)
  | 0, _, _, _ => none
  | n4 + 1, x1, x2, σ =>
    if (σ.1 61 14) ≤ x2 then (
      some (x1, σ)
    ) else (
      Gd (fin x2 56) (
        if (σ.1 74 (x2).toNatClampNeg) = x2 then (
          Lt (x1 + (1 : Int32)) fun v29 =>
            lp_X8_genera_4 N n4 v29 (x2 + (1 : Int32)) σ
        ) else (
          Lt (x1 + (0 : Int32)) fun v29 =>
            lp_X8_genera_4 N n4 v29 (x2 + (1 : Int32)) σ
        )
      )
    )
def g_X8_genera (N : Nat)  (σ : fS) : Option (Int32 × fS) :=
  Bd (lp_X8_genera_4 N N (0 : Int32) (0 : Int32) σ) fun o4 σl4 =>
    some (o4, σl4)
def g_X8_howMany (N : Nat) (a1 : Int32) (σ : fS) : Option (Int32 × fS) :=
  if a1 = 0 then (
    Bd (g_X8_shelves N a1 σ) fun r58 σ58 =>
      some (r58, σ58)
  ) else (
    if a1 = 1 then (
      Bd (g_X8_shelves N a1 σ) fun r58 σ58 =>
        some (r58, σ58)
    ) else (
      if a1 = 2 then (
        Bd (g_X8_shelves N a1 σ) fun r58 σ58 =>
          some (r58, σ58)
      ) else (
        if a1 = 3 then (
          some ((σ.1 61 7), σ)
        ) else (
          if a1 = 4 then (
            some ((σ.1 61 5), σ)
          ) else (
            if a1 = 5 then (
              some ((σ.1 61 13), σ)
            ) else (
              if a1 = 6 then (
                some ((σ.1 61 14), σ)
              ) else (
                if a1 = 7 then (
                  Bd (g_X8_genera N σ) fun r83 σ83 =>
                    some (r83, σ83)
                ) else (
                  if a1 = 8 then (
                    some ((σ.1 61 11), σ)
                  ) else (
                    if a1 = 9 then (
                      some ((σ.1 61 12), σ)
                    ) else (
                      some ((-102 : Int32), σ)
                    )
                  )
                )
              )
            )
          )
        )
      )
    )
  )
def g_X8_count (N : Nat) (a1 : Int32) (σ : fS) : Option (Int32 × fS) :=
  Bd (g_X8_howMany N a1 σ) fun r2 σ2 =>
    some (r2, σ2)
def g_X8_mix (N : Nat) (a1 : Int64) (σ : fS) : Option fS :=
  Lt (sL σ 61 32 (((31 : Int64) * (σ.2 61 32)) + a1)) fun σ11 =>
    some σ11
def lp_X8_mixForm_2 (N : Nat) (p1 : Int32) : Nat → Int32 → fS → Option fS
  | 0, _, _ => none
  | n2 + 1, x2, σ =>
    if (9 : Int32) ≤ x2 then (
      some σ
    ) else (
      Bd (g_X8_aboutNow N p1 x2 σ) fun r12 σ12 =>
        Bv (g_X8_mix N (r12).toInt64 σ12) fun σ16 =>
          lp_X8_mixForm_2 N p1 n2 (x2 + (1 : Int32)) σ16
    )
def lp_X8_mixForm_27 (N : Nat) (p1 : Int32) : Nat → Int32 → fS → Option fS
  | 0, _, _ => none
  | n27 + 1, x2, σ =>
    Gd (fin p1 8) (
      if (σ.1 62 (p1).toNatClampNeg) ≤ x2 then (
        some σ
      ) else (
        Gd (fin (((4 : Int32) * p1) + x2) 32) (
          Bd (g_X8_coreOf N (σ.1 63 ((((4 : Int32) * p1) + x2)).toNatClampNeg) σ) fun r48 σ48 =>
            Bv (g_X8_mix N (r48).toInt64 σ48) fun σ52 =>
              lp_X8_mixForm_27 N p1 n27 (x2 + (1 : Int32)) σ52
        )
      )
    )
def g_X8_mixForm (N : Nat) (a1 : Int32) (σ : fS) : Option fS :=
  Bv (lp_X8_mixForm_2 N a1 N (0 : Int32) σ) fun σl2 =>
    Bv (lp_X8_mixForm_27 N a1 N (0 : Int32) σl2) fun σl27 =>
      some σl27
def lp_X8_digest_9 (N : Nat) : Nat → Int32 → fS → Option fS
  | 0, _, _ => none
  | n9 + 1, x1, σ =>
    if (8 : Int32) ≤ x1 then (
      some σ
    ) else (
      Gd (fin x1 8) (
        if (σ.1 62 (x1).toNatClampNeg) ≤ 0 then (
          Bv (g_X8_mix N (0 : Int64) σ) fun σ34 =>
            lp_X8_digest_9 N n9 (x1 + (1 : Int32)) σ34
        ) else (
          Bv (g_X8_mixForm N x1 σ) fun σ26 =>
            lp_X8_digest_9 N n9 (x1 + (1 : Int32)) σ26
        )
      )
    )
def lp_X8_digest_45 (N : Nat) : Nat → Int32 → fS → Option fS
  | 0, _, _ => none
  | n45 + 1, x1, σ =>
    if ((5 : Int32) * (σ.1 61 14)) ≤ x1 then (
      some σ
    ) else (
      Bd (g_X8_pairNow N (x1 / (5 : Int32)) (iR x1 (5 : Int32)) σ) fun r63 σ63 =>
        Bv (g_X8_mix N (r63).toInt64 σ63) fun σ67 =>
          lp_X8_digest_45 N n45 (x1 + (1 : Int32)) σ67
    )
def lp_X8_digest_78 (N : Nat) : Nat → Int32 → fS → Option fS
  | 0, _, _ => none
  | n78 + 1, x1, σ =>
    if (σ.1 61 5) ≤ x1 then (
      some σ
    ) else (
      Gd (fin x1 18) (
        Bv (g_X8_mix N ((σ.1 67 (x1).toNatClampNeg)).toInt64 σ) fun σ94 =>
          lp_X8_digest_78 N n78 (x1 + (1 : Int32)) σ94
      )
    )
def lp_X8_digest_105 (N : Nat) : Nat → Int32 → fS → Option fS
  | 0, _, _ => none
  | n105 + 1, x1, σ =>
    if (10 : Int32) ≤ x1 then (
      some σ
    ) else (
      Bd (g_X8_howMany N x1 σ) fun r114 σ114 =>
        Bv (g_X8_mix N (r114).toInt64 σ114) fun σ118 =>
          lp_X8_digest_105 N n105 (x1 + (1 : Int32)) σ118
    )
def g_X8_digest (N : Nat)  (σ : fS) : Option (Int64 × fS) :=
  Lt (sL σ 61 32 (1487 : Int64)) fun σ4 =>
    Bv (lp_X8_digest_9 N N (0 : Int32) σ4) fun σl9 =>
      Bv (lp_X8_digest_45 N N (0 : Int32) σl9) fun σl45 =>
        Bv (lp_X8_digest_78 N N (0 : Int32) σl45) fun σl78 =>
          Bv (lp_X8_digest_105 N N (0 : Int32) σl78) fun σl105 =>
            some ((σl105.2 61 32), σl105)
