def mkX (σ : St) : St := (sb (sa (sa (sb (sa (sa (sa (sa (sa (sb (si (si (si σ 18 0) 19 0) 20 0) 3 (fun _ => 0)) 24 (fun _ => 0)) 25 (fun _ => 0)) 26 (fun _ => 0)) 27 (fun _ => 0)) 28 (fun _ => 0)) 4 (fun _ => 0)) 29 (fun _ => 0)) 30 (fun _ => 0)) 5 (fun _ => 0))
def f_T_addTable (N : Nat) (σ : St) (x1 : Int32) : Option (Int32 × St) :=
  ckb (gi σ 0) 6 <|
  nm (wa σ 0 (gi σ 0) x1) fun s1 =>
  nm (si s1 0 ((gi s1 0) + (1 : Int32))) fun s2 =>
  some (((gi s2 0) - (1 : Int32)), s2)
def f_Q_table (N : Nat) (σ : St) (x1 : Int32) : Option (Int32 × St) :=
  if x1 < (1 : Int32) then (
    some ((-102 : Int32), σ)
  ) else (
    if x1 ≤ (4 : Int32) then (
      if (gi σ 0) < (6 : Int32) then (
        bd (f_T_addTable N σ x1) fun r1 s2 =>
        some (r1, s2)
      ) else (
        some ((-104 : Int32), σ)
      )
    ) else (
      some ((-102 : Int32), σ)
    )
  )
def f_T_has (N : Nat) (σ : St) (x1 : Int32) : Option (Int32 × St) :=
  if x1 < 0 then (
    some ((0 : Int32), σ)
  ) else (
    if (gi σ 0) ≤ x1 then (
      some ((0 : Int32), σ)
    ) else (
      some ((1 : Int32), σ)
    )
  )
def f_T_addRow (N : Nat) (row : Nat → Int64) (σ : St) (x1 : Int32) (x3 : Int32) : Option (Int32 × St) :=
  ckb x1 6 <|
  ckb ((x1 * (8 : Int32)) + (ga σ 1 (x1).toNatClampNeg)) 48 <|
  nm (wa σ 2 ((x1 * (8 : Int32)) + (ga σ 1 (x1).toNatClampNeg)) x3) fun s1 =>
  ckc (((x1 * (8 : Int32)) + (ga σ 1 (x1).toNatClampNeg)) * (4 : Int32)) 4 192 <|
  nm (sb s1 0 (va_cpy row (gb s1 0) 0 ((((x1 * (8 : Int32)) + (ga σ 1 (x1).toNatClampNeg)) * (4 : Int32))).toNatClampNeg 4)) fun s2 =>
  ckb x1 6 <|
  ckb x1 6 <|
  nm (wa s2 1 x1 ((ga s2 1 (x1).toNatClampNeg) + (1 : Int32))) fun s3 =>
  ckb x1 6 <|
  some ((ga s3 1 (x1).toNatClampNeg), s3)
def f_Q_isOutside (N : Nat) (σ : St) (x0 : Int64) : Option (Int32 × St) :=
  if (lg_cmp x0 (-1000000000000 : Int64)) < 0 then (
    some ((1 : Int32), σ)
  ) else (
    if (lg_cmp x0 (1000000000000 : Int64)) ≤ 0 then (
      some ((0 : Int32), σ)
    ) else (
      some ((1 : Int32), σ)
    )
  )
def f_Q_insert_58_b (N : Nat) (row11 : Nat → Int64) (k58 : St → Int32 → Int32 → Int32 → Int32 → Option (Int32 × St)) (σ : St) (x1 : Int32) (x10 : Int32) (x12 : Int32) (x13 : Int32) : Option (Int32 × St) :=
  if x12 ≤ x13 then (
    ckb x1 6 <|
    if (ga σ 1 (x1).toNatClampNeg) < (8 : Int32) then (
      bd (f_T_addRow N row11 σ x1 x10) fun r12 s13 =>
      some (r12, s13)
    ) else (
      some ((-104 : Int32), σ)
    )
  ) else (
    if ((x10 >>> (x13 &&& 31)) &&& (1 : Int32)) = 0 then (
      ckb x13 4 <|
      bd (f_Q_isOutside N σ (row11 (x13).toNatClampNeg)) fun r14 s15 =>
      if r14 = 0 then (
        k58 s15 x1 x10 x12 (x13 + 1)
      ) else (
        some ((-102 : Int32), s15)
      )
    ) else (
      k58 σ x1 x10 x12 (x13 + 1)
    )
  )
def f_Q_insert_58 (N : Nat) (row11 : Nat → Int64) : Nat → St → Int32 → Int32 → Int32 → Int32 → Option (Int32 × St)
  | 0 => fun _ _ _ _ _ => none
  | n + 1 => f_Q_insert_58_b N row11 (f_Q_insert_58 N row11 n)
def f_Q_insert (N : Nat) (σ : St) (x1 : Int32) (x2 : Int64) (x4 : Int64) (x6 : Int64) (x8 : Int64) (x10 : Int32) : Option (Int32 × St) :=
  bd (f_T_has N σ x1) fun r1 s2 =>
  if r1 = 0 then (
    some ((-101 : Int32), s2)
  ) else (
    nm (fun _ => (0 : Int64)) fun row3 =>
    ckb (0 : Int32) 4 <|
    nm (vp_updL row3 ((0 : Int32)).toNatClampNeg x2) fun row5 =>
    ckb (1 : Int32) 4 <|
    nm (vp_updL row5 ((1 : Int32)).toNatClampNeg x4) fun row7 =>
    ckb (2 : Int32) 4 <|
    nm (vp_updL row7 ((2 : Int32)).toNatClampNeg x6) fun row9 =>
    ckb (3 : Int32) 4 <|
    nm (vp_updL row9 ((3 : Int32)).toNatClampNeg x8) fun row11 =>
    ckb x1 6 <|
    f_Q_insert_58 N row11 N s2 x1 x10 (if (4 : Int32) < (ga s2 0 (x1).toNatClampNeg) then (4 : Int32) else (ga s2 0 (x1).toNatClampNeg)) (0 : Int32)
  )
def f_E_clear (N : Nat) (σ : St) : Option (Unit × St) :=
  nm (si σ 1 (0 : Int32)) fun s1 =>
  nm (si s1 2 (0 : Int32)) fun s2 =>
  some ((), s2)
def f_Y_setShape (N : Nat) (σ : St) (x1 : Int32) (x2 : Int32) (x3 : Int32) : Option (Unit × St) :=
  ckt x1 <|
  nm (si σ 9 x1) fun s1 =>
  nm (si s1 10 x2) fun s2 =>
  nm (si s2 11 x3) fun s3 =>
  some ((), s3)
def f_Y_clear (N : Nat) (σ : St) : Option (Unit × St) :=
  nm (si σ 3 (0 : Int32)) fun s1 =>
  nm (si s1 4 (-1 : Int32)) fun s2 =>
  nm (si s2 5 (-1 : Int32)) fun s3 =>
  nm (si s3 6 (0 : Int32)) fun s4 =>
  nm (si s4 7 (0 : Int32)) fun s5 =>
  nm (si s5 8 (0 : Int32)) fun s6 =>
  bd (f_Y_setShape N s6 (0 : Int32) (1000 : Int32) (0 : Int32)) fun _ s8 =>
  some ((), s8)
def f_Q_fresh (N : Nat) (σ : St) : Option (Int32 × St) :=
  bd (f_E_clear N σ) fun _ s2 =>
  bd (f_Y_clear N s2) fun _ s4 =>
  some ((gi σ 1), s4)
def f_E_has (N : Nat) (σ : St) (x1 : Int32) : Option (Int32 × St) :=
  if x1 < 0 then (
    some ((0 : Int32), σ)
  ) else (
    if (gi σ 1) ≤ x1 then (
      some ((0 : Int32), σ)
    ) else (
      some ((1 : Int32), σ)
    )
  )
def f_E_partsOf (N : Nat) (σ : St) (x1 : Int32) : Option (Int32 × St) :=
  bd (f_E_has N σ x1) fun r1 s2 =>
  if r1 = 0 then (
    some ((0 : Int32), s2)
  ) else (
    ckb x1 60 <|
    some ((ga s2 6 (x1).toNatClampNeg), s2)
  )
def f_E_hasRoom (N : Nat) (σ : St) (x1 : Int32) (x2 : Int32) : Option (Int32 × St) :=
  if (60 : Int32) ≤ (gi σ 1) then (
    some ((0 : Int32), σ)
  ) else (
    bd (f_E_partsOf N σ x1) fun r1 s2 =>
    bd (f_E_partsOf N s2 x2) fun r3 s4 =>
    if (60 : Int32) < (((1 : Int32) + r1) + r3) then (
      some ((0 : Int32), s4)
    ) else (
      some ((1 : Int32), s4)
    )
  )
def f_E_likeOf (N : Nat) (σ : St) (x1 : Int32) : Option (Int32 × St) :=
  bd (f_E_has N σ x1) fun r1 s2 =>
  if r1 = 0 then (
    some ((-1 : Int32), s2)
  ) else (
    ckb x1 60 <|
    some ((ga s2 7 (x1).toNatClampNeg), s2)
  )
def f_E_firstLike_2_b (N : Nat) (k2 : St → Int32 → Int32 → Option (Int32 × St)) (σ : St) (x1 : Int32) (x2 : Int32) : Option (Int32 × St) :=
  if x1 ≤ x2 then (
    some (x1, σ)
  ) else (
    ckb x2 60 <|
    ckb x1 60 <|
    if (ga σ 3 (x2).toNatClampNeg) = (ga σ 3 (x1).toNatClampNeg) then (
      ckb x2 60 <|
      ckb x1 60 <|
      if (lg_cmp (gb σ 1 (x2).toNatClampNeg) (gb σ 1 (x1).toNatClampNeg)) = 0 then (
        ckb x2 60 <|
        bd (f_E_likeOf N σ (ga σ 4 (x2).toNatClampNeg)) fun r1 s2 =>
        ckb x1 60 <|
        bd (f_E_likeOf N s2 (ga s2 4 (x1).toNatClampNeg)) fun r3 s4 =>
        if r1 = r3 then (
          ckb x2 60 <|
          bd (f_E_likeOf N s4 (ga s4 5 (x2).toNatClampNeg)) fun r5 s6 =>
          ckb x1 60 <|
          bd (f_E_likeOf N s6 (ga s6 5 (x1).toNatClampNeg)) fun r7 s8 =>
          if r5 = r7 then (
            ckb x2 60 <|
            some ((ga s8 7 (x2).toNatClampNeg), s8)
          ) else (
            k2 s8 x1 (x2 + 1)
          )
        ) else (
          k2 s4 x1 (x2 + 1)
        )
      ) else (
        k2 σ x1 (x2 + 1)
      )
    ) else (
      k2 σ x1 (x2 + 1)
    )
  )
def f_E_firstLike_2 (N : Nat) : Nat → St → Int32 → Int32 → Option (Int32 × St)
  | 0 => fun _ _ _ => none
  | n + 1 => f_E_firstLike_2_b N (f_E_firstLike_2 N n)
def f_E_firstLike (N : Nat) (σ : St) (x1 : Int32) : Option (Int32 × St) :=
  f_E_firstLike_2 N N σ x1 (0 : Int32)
def f_E_bitsOf (N : Nat) (σ : St) (x2 : Int32) : Option (Int32 × St) :=
  bd (f_E_has N σ x2) fun r1 s2 =>
  if r1 = 0 then (
    some ((0 : Int32), s2)
  ) else (
    ckb x2 60 <|
    some ((ga s2 9 (x2).toNatClampNeg), s2)
  )
def f_E_bitsOf_1 (N : Nat) (σ : St) (x2 : Int32) : Option (Int32 × St) :=
  bd (f_E_has N σ x2) fun r1 s2 =>
  if r1 = 0 then (
    some ((0 : Int32), s2)
  ) else (
    ckb x2 60 <|
    some ((ga s2 8 (x2).toNatClampNeg), s2)
  )
def f_E_add_143 (N : Nat) (σ : St) (x6 : Int32) (t0 : Int32) (t1 : Int32) : Option (Int32 × St) :=
  ckb t1 60 <|
  nm (wa σ 9 t1 t0) fun s11 =>
  bd (f_E_firstLike N s11 x6) fun r12 s13 =>
  ckb x6 60 <|
  nm (wa s13 7 x6 r12) fun s14 =>
  nm (si s14 1 ((gi s14 1) + (1 : Int32))) fun s15 =>
  some (x6, s15)
def f_E_add_102 (N : Nat) (σ : St) (x1 : Int32) (x2 : Int64) (x4 : Int32) (x5 : Int32) (x6 : Int32) (t0 : Int32) (t1 : Int32) : Option (Int32 × St) :=
  ckb t1 60 <|
  nm (wa σ 8 t1 t0) fun s10 =>
  if x1 = (16 : Int32) then (
    f_E_add_143 N s10 x6 ((1 : Int32) <<< ((x2).toInt32 &&& 31)) x6
  ) else (
    bd (f_E_bitsOf N s10 x4) fun r16 s17 =>
    bd (f_E_bitsOf N s17 x5) fun r18 s19 =>
    f_E_add_143 N s19 x6 (r16 ||| r18) x6
  )
def f_E_add (N : Nat) (σ : St) (x1 : Int32) (x2 : Int64) (x4 : Int32) (x5 : Int32) : Option (Int32 × St) :=
  ckb (gi σ 1) 60 <|
  nm (wa σ 3 (gi σ 1) x1) fun s1 =>
  ckb (gi σ 1) 60 <|
  nm (wl s1 1 (gi σ 1) x2) fun s2 =>
  ckb (gi σ 1) 60 <|
  nm (wa s2 4 (gi σ 1) x4) fun s3 =>
  ckb (gi σ 1) 60 <|
  nm (wa s3 5 (gi σ 1) x5) fun s4 =>
  bd (f_E_partsOf N s4 x4) fun r5 s6 =>
  bd (f_E_partsOf N s6 x5) fun r7 s8 =>
  ckb (gi σ 1) 60 <|
  nm (wa s8 6 (gi σ 1) (((1 : Int32) + r5) + r7)) fun s9 =>
  if x1 = (15 : Int32) then (
    f_E_add_102 N s9 x1 x2 x4 x5 (gi σ 1) ((1 : Int32) <<< ((x2).toInt32 &&& 31)) (gi σ 1)
  ) else (
    bd (f_E_bitsOf_1 N s9 x4) fun r20 s21 =>
    bd (f_E_bitsOf_1 N s21 x5) fun r22 s23 =>
    f_E_add_102 N s23 x1 x2 x4 x5 (gi σ 1) (r20 ||| r22) (gi σ 1)
  )
def f_Q_constant (N : Nat) (σ : St) (x1 : Int64) (x3 : Int32) : Option (Int32 × St) :=
  bd (f_Q_isOutside N σ x1) fun r1 s2 =>
  if r1 = 0 then (
    bd (f_E_hasRoom N s2 (-1 : Int32) (-1 : Int32)) fun r3 s4 =>
    if r3 = 0 then (
      some ((-104 : Int32), s4)
    ) else (
      if x3 = 0 then (
        bd (f_E_add N s4 (13 : Int32) x1 (-1 : Int32) (-1 : Int32)) fun r5 s6 =>
        some (r5, s6)
      ) else (
        bd (f_E_add N s4 (14 : Int32) (0 : Int64) (-1 : Int32) (-1 : Int32)) fun r7 s8 =>
        some (r7, s8)
      )
    )
  ) else (
    some ((-102 : Int32), s2)
  )
def f_Q_column (N : Nat) (σ : St) (x1 : Int32) (x2 : Int32) : Option (Int32 × St) :=
  if x1 < 0 then (
    some ((-102 : Int32), σ)
  ) else (
    if (3 : Int32) ≤ x1 then (
      some ((-102 : Int32), σ)
    ) else (
      if x2 < 0 then (
        some ((-102 : Int32), σ)
      ) else (
        if x2 < (4 : Int32) then (
          bd (f_E_hasRoom N σ (-1 : Int32) (-1 : Int32)) fun r1 s2 =>
          if r1 = 0 then (
            some ((-104 : Int32), s2)
          ) else (
            bd (f_E_add N s2 (15 : Int32) (((x1 * (4 : Int32)) + x2)).toInt64 (-1 : Int32) (-1 : Int32)) fun r3 s4 =>
            some (r3, s4)
          )
        ) else (
          some ((-102 : Int32), σ)
        )
      )
    )
  )
def f_E_isTruth (N : Nat) (σ : St) (x1 : Int32) : Option (Int32 × St) :=
  ckb x1 60 <|
  if (ga σ 3 (x1).toNatClampNeg) < (5 : Int32) then (
    some ((0 : Int32), σ)
  ) else (
    ckb x1 60 <|
    if (12 : Int32) < (ga σ 3 (x1).toNatClampNeg) then (
      some ((0 : Int32), σ)
    ) else (
      some ((1 : Int32), σ)
    )
  )
def f_Q_op_131 (N : Nat) (σ : St) (x1 : Int32) (x2 : Int32) (t0 : Int32) : Option (Int32 × St) :=
  bd (f_E_hasRoom N σ x2 t0) fun r5 s6 =>
  if r5 = 0 then (
    some ((-104 : Int32), s6)
  ) else (
    bd (f_E_add N s6 x1 (0 : Int64) x2 t0) fun r7 s8 =>
    some (r7, s8)
  )
def f_Q_op_121 (N : Nat) (σ : St) (x1 : Int32) (x2 : Int32) (x3 : Int32) (x4 : Int32) : Option (Int32 × St) :=
  if x4 = 0 then (
    f_Q_op_131 N σ x1 x2 x3
  ) else (
    f_Q_op_131 N σ x1 x2 (-1 : Int32)
  )
def f_Q_op_85 (N : Nat) (σ : St) (x1 : Int32) (x2 : Int32) (x3 : Int32) (x4 : Int32) (t0 : Int32) : Option (Int32 × St) :=
  bd (f_E_isTruth N σ x2) fun r3 s4 =>
  if r3 = t0 then (
    if x4 = 0 then (
      bd (f_E_isTruth N s4 x3) fun r9 s10 =>
      if r9 = t0 then (
        f_Q_op_121 N s10 x1 x2 x3 x4
      ) else (
        some ((-103 : Int32), s10)
      )
    ) else (
      f_Q_op_121 N s4 x1 x2 x3 x4
    )
  ) else (
    some ((-103 : Int32), s4)
  )
def f_Q_op_80 (N : Nat) (σ : St) (x1 : Int32) (x2 : Int32) (x3 : Int32) (x4 : Int32) : Option (Int32 × St) :=
  f_Q_op_85 N σ x1 x2 x3 x4 (1 : Int32)
def f_Q_op_49 (N : Nat) (σ : St) (x1 : Int32) (x2 : Int32) (x3 : Int32) (x4 : Int32) : Option (Int32 × St) :=
  if x1 < 0 then (
    some ((-102 : Int32), σ)
  ) else (
    if x1 ≤ (12 : Int32) then (
      if x1 = (9 : Int32) then (
        f_Q_op_80 N σ x1 x2 x3 x4
      ) else (
        if x1 = (10 : Int32) then (
          f_Q_op_80 N σ x1 x2 x3 x4
        ) else (
          if x1 = (11 : Int32) then (
            f_Q_op_80 N σ x1 x2 x3 x4
          ) else (
            f_Q_op_85 N σ x1 x2 x3 x4 (0 : Int32)
          )
        )
      )
    ) else (
      some ((-102 : Int32), σ)
    )
  )
def f_Q_op_17 (N : Nat) (σ : St) (x1 : Int32) (x2 : Int32) (x3 : Int32) (t0 : Int32) : Option (Int32 × St) :=
  bd (f_E_has N σ x2) fun r1 s2 =>
  if r1 = 0 then (
    some ((-101 : Int32), s2)
  ) else (
    if t0 = 0 then (
      bd (f_E_has N s2 x3) fun r11 s12 =>
      if r11 = 0 then (
        some ((-101 : Int32), s12)
      ) else (
        f_Q_op_49 N s12 x1 x2 x3 t0
      )
    ) else (
      f_Q_op_49 N s2 x1 x2 x3 t0
    )
  )
def f_Q_op_12 (N : Nat) (σ : St) (x1 : Int32) (x2 : Int32) (x3 : Int32) : Option (Int32 × St) :=
  f_Q_op_17 N σ x1 x2 x3 (1 : Int32)
def f_Q_op (N : Nat) (σ : St) (x1 : Int32) (x2 : Int32) (x3 : Int32) : Option (Int32 × St) :=
  if x1 = (11 : Int32) then (
    f_Q_op_12 N σ x1 x2 x3
  ) else (
    if x1 = (12 : Int32) then (
      f_Q_op_12 N σ x1 x2 x3
    ) else (
      f_Q_op_17 N σ x1 x2 x3 (0 : Int32)
    )
  )
def f_E_addAggregate_41 (N : Nat) (σ : St) (x2 : Int32) (x4 : Int32) (t0 : Int32) (t1 : Int32) : Option (Int32 × St) :=
  ckb t1 8 <|
  nm (wz σ 12 t1 t0) fun s3 =>
  nm (si s3 2 ((gi s3 2) + (1 : Int32))) fun s4 =>
  bd (f_E_add N s4 (16 : Int32) (x4).toInt64 x2 (-1 : Int32)) fun r5 s6 =>
  some (r5, s6)
def f_E_addAggregate_40 (N : Nat) (σ : St) (x2 : Int32) (x4 : Int32) (t0 : Int32) : Option (Int32 × St) :=
  f_E_addAggregate_41 N σ x2 x4 (0 : Int32) t0
def f_E_addAggregate (N : Nat) (σ : St) (x1 : Int32) (x2 : Int32) (x3 : Int32) : Option (Int32 × St) :=
  ckb (gi σ 2) 8 <|
  nm (wa σ 10 (gi σ 2) x1) fun s1 =>
  ckb (gi σ 2) 8 <|
  nm (wa s1 11 (gi σ 2) x2) fun s2 =>
  if x3 = 0 then (
    f_E_addAggregate_40 N s2 x2 (gi σ 2) (gi σ 2)
  ) else (
    if x1 = 0 then (
      f_E_addAggregate_40 N s2 x2 (gi σ 2) (gi σ 2)
    ) else (
      f_E_addAggregate_41 N s2 x2 (gi σ 2) (1 : Int32) (gi σ 2)
    )
  )
def f_Q_aggregate (N : Nat) (σ : St) (x1 : Int32) (x2 : Int32) (x3 : Int32) : Option (Int32 × St) :=
  bd (f_E_has N σ x2) fun r1 s2 =>
  if r1 = 0 then (
    some ((-101 : Int32), s2)
  ) else (
    if x1 < 0 then (
      some ((-102 : Int32), s2)
    ) else (
      if x1 ≤ (5 : Int32) then (
        bd (f_E_isTruth N s2 x2) fun r3 s4 =>
        if r3 = 0 then (
          ckb x2 60 <|
          if (ga s4 9 (x2).toNatClampNeg) = 0 then (
            if (8 : Int32) ≤ (gi s4 2) then (
              some ((-104 : Int32), s4)
            ) else (
              bd (f_E_hasRoom N s4 x2 (-1 : Int32)) fun r5 s6 =>
              if r5 = 0 then (
                some ((-104 : Int32), s6)
              ) else (
                bd (f_E_addAggregate N s6 x1 x2 x3) fun r7 s8 =>
                some (r7, s8)
              )
            )
          ) else (
            some ((-103 : Int32), s4)
          )
        ) else (
          some ((-103 : Int32), s4)
        )
      ) else (
        some ((-102 : Int32), s2)
      )
    )
  )
def f_Y_addSource (N : Nat) (σ : St) (x1 : Int32) (x2 : Int32) (x3 : Int32) : Option (Int32 × St) :=
  ckb (gi σ 3) 3 <|
  nm (wa σ 13 (gi σ 3) x1) fun s1 =>
  ckb (gi s1 3) 3 <|
  nm (wa s1 14 (gi s1 3) x2) fun s2 =>
  ckb (gi s2 3) 3 <|
  nm (wa s2 15 (gi s2 3) x3) fun s3 =>
  nm (si s3 3 ((gi s3 3) + (1 : Int32))) fun s4 =>
  some ((gi s4 3), s4)
def f_Q_source_100 (N : Nat) (σ : St) (x1 : Int32) (x2 : Int32) (x3 : Int32) : Option (Int32 × St) :=
  if (gi σ 3) < (3 : Int32) then (
    bd (f_Y_addSource N σ x1 x2 x3) fun r3 s4 =>
    some (r3, s4)
  ) else (
    some ((-104 : Int32), σ)
  )
def f_Q_source_78 (N : Nat) (σ : St) (x1 : Int32) (x2 : Int32) (x3 : Int32) (t0 : Int32) (t1 : Int32) : Option (Int32 × St) :=
  if t1 = t0 then (
    if x3 = (-1 : Int32) then (
      f_Q_source_100 N σ x1 x2 x3
    ) else (
      bd (f_E_isTruth N σ x3) fun r5 s6 =>
      if r5 = 0 then (
        some ((-103 : Int32), s6)
      ) else (
        f_Q_source_100 N s6 x1 x2 x3
      )
    )
  ) else (
    some ((-103 : Int32), σ)
  )
def f_Q_source_68 (N : Nat) (σ : St) (x1 : Int32) (x2 : Int32) (x3 : Int32) (t0 : Int32) : Option (Int32 × St) :=
  if x3 = (-1 : Int32) then (
    f_Q_source_78 N σ x1 x2 x3 (1 : Int32) t0
  ) else (
    f_Q_source_78 N σ x1 x2 x3 (0 : Int32) t0
  )
def f_Q_source_59 (N : Nat) (σ : St) (x1 : Int32) (x2 : Int32) (x3 : Int32) : Option (Int32 × St) :=
  if x2 = 0 then (
    f_Q_source_68 N σ x1 x2 x3 (1 : Int32)
  ) else (
    f_Q_source_68 N σ x1 x2 x3 (0 : Int32)
  )
def f_Q_source_30 (N : Nat) (σ : St) (x1 : Int32) (x2 : Int32) (x3 : Int32) : Option (Int32 × St) :=
  if x2 < 0 then (
    some ((-102 : Int32), σ)
  ) else (
    if x2 ≤ (2 : Int32) then (
      if (gi σ 3) = 0 then (
        if x2 = 0 then (
          f_Q_source_59 N σ x1 x2 x3
        ) else (
          some ((-103 : Int32), σ)
        )
      ) else (
        f_Q_source_59 N σ x1 x2 x3
      )
    ) else (
      some ((-102 : Int32), σ)
    )
  )
def f_Q_source (N : Nat) (σ : St) (x1 : Int32) (x2 : Int32) (x3 : Int32) : Option (Int32 × St) :=
  bd (f_T_has N σ x1) fun r1 s2 =>
  if r1 = 0 then (
    some ((-101 : Int32), s2)
  ) else (
    if x3 = (-1 : Int32) then (
      f_Q_source_30 N s2 x1 x2 x3
    ) else (
      bd (f_E_has N s2 x3) fun r7 s8 =>
      if r7 = 0 then (
        some ((-101 : Int32), s8)
      ) else (
        f_Q_source_30 N s8 x1 x2 x3
      )
    )
  )
def f_Q_condition_26 (N : Nat) (σ : St) (x1 : Int32) (x2 : Int32) : Option (Int32 × St) :=
  bd (f_E_isTruth N σ x2) fun r3 s4 =>
  if r3 = 0 then (
    some ((-103 : Int32), s4)
  ) else (
    if x1 = 0 then (
      nm (si s4 4 x2) fun s6 =>
      some ((1 : Int32), s6)
    ) else (
      nm (si s4 5 x2) fun s5 =>
      some ((1 : Int32), s5)
    )
  )
def f_Q_condition (N : Nat) (σ : St) (x1 : Int32) (x2 : Int32) : Option (Int32 × St) :=
  bd (f_E_has N σ x2) fun r1 s2 =>
  if r1 = 0 then (
    some ((-101 : Int32), s2)
  ) else (
    if x1 = 0 then (
      f_Q_condition_26 N s2 x1 x2
    ) else (
      if x1 = (1 : Int32) then (
        f_Q_condition_26 N s2 x1 x2
      ) else (
        some ((-102 : Int32), s2)
      )
    )
  )
def f_Y_addGroup (N : Nat) (σ : St) (x1 : Int32) : Option (Int32 × St) :=
  ckb (gi σ 6) 4 <|
  nm (wa σ 16 (gi σ 6) x1) fun s1 =>
  nm (si s1 6 ((gi s1 6) + (1 : Int32))) fun s2 =>
  some ((gi s2 6), s2)
def f_Q_group (N : Nat) (σ : St) (x1 : Int32) : Option (Int32 × St) :=
  bd (f_E_has N σ x1) fun r1 s2 =>
  if r1 = 0 then (
    some ((-101 : Int32), s2)
  ) else (
    bd (f_E_isTruth N s2 x1) fun r3 s4 =>
    if r3 = 0 then (
      if (gi s4 6) < (4 : Int32) then (
        bd (f_Y_addGroup N s4 x1) fun r5 s6 =>
        some (r5, s6)
      ) else (
        some ((-104 : Int32), s4)
      )
    ) else (
      some ((-103 : Int32), s4)
    )
  )
def f_Y_addItem (N : Nat) (σ : St) (x1 : Int32) : Option (Int32 × St) :=
  ckb (gi σ 7) 6 <|
  nm (wa σ 17 (gi σ 7) x1) fun s1 =>
  nm (si s1 7 ((gi s1 7) + (1 : Int32))) fun s2 =>
  some (((gi s2 7) - (1 : Int32)), s2)
def f_Q_item (N : Nat) (σ : St) (x1 : Int32) : Option (Int32 × St) :=
  bd (f_E_has N σ x1) fun r1 s2 =>
  if r1 = 0 then (
    some ((-101 : Int32), s2)
  ) else (
    bd (f_E_isTruth N s2 x1) fun r3 s4 =>
    if r3 = 0 then (
      if (gi s4 7) < (6 : Int32) then (
        bd (f_Y_addItem N s4 x1) fun r5 s6 =>
        some (r5, s6)
      ) else (
        some ((-104 : Int32), s4)
      )
    ) else (
      some ((-103 : Int32), s4)
    )
  )
def f_Y_addOrder (N : Nat) (σ : St) (x1 : Int32) (x2 : Int32) : Option (Int32 × St) :=
  ckb (gi σ 8) 4 <|
  nm (wa σ 18 (gi σ 8) x1) fun s1 =>
  ckb (gi s1 8) 4 <|
  nm (wz s1 19 (gi s1 8) x2) fun s2 =>
  nm (si s2 8 ((gi s2 8) + (1 : Int32))) fun s3 =>
  some ((gi s3 8), s3)
def f_Q_order (N : Nat) (σ : St) (x1 : Int32) (x2 : Int32) : Option (Int32 × St) :=
  if x1 < 0 then (
    some ((-101 : Int32), σ)
  ) else (
    if x1 < (gi σ 7) then (
      if (gi σ 8) < (4 : Int32) then (
        bd (f_Y_addOrder N σ x1 x2) fun r1 s2 =>
        some (r1, s2)
      ) else (
        some ((-104 : Int32), σ)
      )
    ) else (
      some ((-101 : Int32), σ)
    )
  )
def f_Q_shape (N : Nat) (σ : St) (x1 : Int32) (x2 : Int32) (x3 : Int32) : Option (Int32 × St) :=
  if x2 < 0 then (
    some ((-102 : Int32), σ)
  ) else (
    if (1000 : Int32) < x2 then (
      some ((-102 : Int32), σ)
    ) else (
      if x3 < 0 then (
        some ((-102 : Int32), σ)
      ) else (
        if x3 ≤ (1000 : Int32) then (
          bd (f_Y_setShape N σ x1 x2 x3) fun _ s2 =>
          some ((1 : Int32), s2)
        ) else (
          some ((-102 : Int32), σ)
        )
      )
    )
  )
def f_A_clear (N : Nat) (σ : St) : Option (Unit × St) :=
  nm (si σ 12 (0 : Int32)) fun s1 =>
  nm (si s1 13 (0 : Int32)) fun s2 =>
  nm (si s2 14 (0 : Int32)) fun s3 =>
  nm (si s3 15 (0 : Int32)) fun s4 =>
  some ((), s4)
def f_C_bitsAt (N : Nat) (σ : St) (x1 : Int32) : Option (Int32 × St) :=
  bd (f_E_has N σ x1) fun r1 s2 =>
  if r1 = 0 then (
    some ((0 : Int32), s2)
  ) else (
    ckb x1 60 <|
    some ((ga s2 8 (x1).toNatClampNeg), s2)
  )
def f_C_bitsIn_6_b (N : Nat) (k6 : St → Int32 → Int32 → Int32 → Option (Int32 × St)) (σ : St) (x2 : Int32) (x4 : Int32) (x5 : Int32) : Option (Int32 × St) :=
  if x2 ≤ x5 then (
    some (x4, σ)
  ) else (
    ckb x5 4 <|
    bd (f_C_bitsAt N σ (ga σ 16 (x5).toNatClampNeg)) fun r1 s2 =>
    k6 s2 x2 (x4 ||| r1) (x5 + 1)
  )
def f_C_bitsIn_6 (N : Nat) : Nat → St → Int32 → Int32 → Int32 → Option (Int32 × St)
  | 0 => fun _ _ _ _ => none
  | n + 1 => f_C_bitsIn_6_b N (f_C_bitsIn_6 N n)
def f_C_bitsIn (N : Nat) (σ : St) (x2 : Int32) : Option (Int32 × St) :=
  f_C_bitsIn_6 N N σ x2 (0 : Int32) (0 : Int32)
def f_C_bitsIn_1_6_b (N : Nat) (k6 : St → Int32 → Int32 → Int32 → Option (Int32 × St)) (σ : St) (x2 : Int32) (x4 : Int32) (x5 : Int32) : Option (Int32 × St) :=
  if x2 ≤ x5 then (
    some (x4, σ)
  ) else (
    ckb x5 6 <|
    bd (f_C_bitsAt N σ (ga σ 17 (x5).toNatClampNeg)) fun r1 s2 =>
    k6 s2 x2 (x4 ||| r1) (x5 + 1)
  )
def f_C_bitsIn_1_6 (N : Nat) : Nat → St → Int32 → Int32 → Int32 → Option (Int32 × St)
  | 0 => fun _ _ _ _ => none
  | n + 1 => f_C_bitsIn_1_6_b N (f_C_bitsIn_1_6 N n)
def f_C_bitsIn_1 (N : Nat) (σ : St) (x2 : Int32) : Option (Int32 × St) :=
  f_C_bitsIn_1_6 N N σ x2 (0 : Int32) (0 : Int32)
def f_C_columnsUpTo_4_b (N : Nat) (k4 : St → Int32 → Int32 → Int32 → Option (Int32 × St)) (σ : St) (x1 : Int32) (x2 : Int32) (x3 : Int32) : Option (Int32 × St) :=
  if x1 < x3 then (
    some (x2, σ)
  ) else (
    if (gi σ 3) ≤ x3 then (
      some (x2, σ)
    ) else (
      ckb x3 3 <|
      ckb (ga σ 13 (x3).toNatClampNeg) 6 <|
      k4 σ x1 (x2 ||| ((((1 : Int32) <<< ((ga σ 0 ((ga σ 13 (x3).toNatClampNeg)).toNatClampNeg) &&& 31)) - (1 : Int32)) <<< ((x3 * (4 : Int32)) &&& 31))) (x3 + 1)
    )
  )
def f_C_columnsUpTo_4 (N : Nat) : Nat → St → Int32 → Int32 → Int32 → Option (Int32 × St)
  | 0 => fun _ _ _ _ => none
  | n + 1 => f_C_columnsUpTo_4_b N (f_C_columnsUpTo_4 N n)
def f_C_columnsUpTo (N : Nat) (σ : St) (x1 : Int32) : Option (Int32 × St) :=
  f_C_columnsUpTo_4 N N σ x1 (0 : Int32) (0 : Int32)
def f_C_hasUnknownColumn_2_b (N : Nat) (k2 : St → Int32 → Option (Int32 × St)) (σ : St) (x1 : Int32) : Option (Int32 × St) :=
  if (gi σ 3) ≤ x1 then (
    bd (f_C_bitsAt N σ (gi σ 4)) fun r1 s2 =>
    bd (f_C_bitsAt N s2 (gi s2 5)) fun r3 s4 =>
    bd (f_C_bitsIn N s4 (gi s4 6)) fun r5 s6 =>
    bd (f_C_bitsIn_1 N s6 (gi s6 7)) fun r7 s8 =>
    bd (f_C_columnsUpTo N s8 ((gi s8 3) - (1 : Int32))) fun r9 s10 =>
    if ((((r1 ||| r3) ||| r5) ||| r7) &&& (r9 ^^^ (-1 : Int32))) = 0 then (
      some ((0 : Int32), s10)
    ) else (
      some ((1 : Int32), s10)
    )
  ) else (
    ckb x1 3 <|
    bd (f_C_bitsAt N σ (ga σ 15 (x1).toNatClampNeg)) fun r11 s12 =>
    bd (f_C_columnsUpTo N s12 x1) fun r13 s14 =>
    if (r11 &&& (r13 ^^^ (-1 : Int32))) = 0 then (
      k2 s14 (x1 + 1)
    ) else (
      some ((1 : Int32), s14)
    )
  )
def f_C_hasUnknownColumn_2 (N : Nat) : Nat → St → Int32 → Option (Int32 × St)
  | 0 => fun _ _ => none
  | n + 1 => f_C_hasUnknownColumn_2_b N (f_C_hasUnknownColumn_2 N n)
def f_C_hasUnknownColumn (N : Nat) (σ : St) : Option (Int32 × St) :=
  f_C_hasUnknownColumn_2 N N σ (0 : Int32)
def f_C_bitsAt_1 (N : Nat) (σ : St) (x1 : Int32) : Option (Int32 × St) :=
  bd (f_E_has N σ x1) fun r1 s2 =>
  if r1 = 0 then (
    some ((0 : Int32), s2)
  ) else (
    ckb x1 60 <|
    some ((ga s2 9 (x1).toNatClampNeg), s2)
  )
def f_C_bitsIn_2_6_b (N : Nat) (k6 : St → Int32 → Int32 → Int32 → Option (Int32 × St)) (σ : St) (x2 : Int32) (x4 : Int32) (x5 : Int32) : Option (Int32 × St) :=
  if x2 ≤ x5 then (
    some (x4, σ)
  ) else (
    ckb x5 3 <|
    bd (f_C_bitsAt_1 N σ (ga σ 15 (x5).toNatClampNeg)) fun r1 s2 =>
    k6 s2 x2 (x4 ||| r1) (x5 + 1)
  )
def f_C_bitsIn_2_6 (N : Nat) : Nat → St → Int32 → Int32 → Int32 → Option (Int32 × St)
  | 0 => fun _ _ _ _ => none
  | n + 1 => f_C_bitsIn_2_6_b N (f_C_bitsIn_2_6 N n)
def f_C_bitsIn_2 (N : Nat) (σ : St) (x2 : Int32) : Option (Int32 × St) :=
  f_C_bitsIn_2_6 N N σ x2 (0 : Int32) (0 : Int32)
def f_C_bitsIn_3_6_b (N : Nat) (k6 : St → Int32 → Int32 → Int32 → Option (Int32 × St)) (σ : St) (x2 : Int32) (x4 : Int32) (x5 : Int32) : Option (Int32 × St) :=
  if x2 ≤ x5 then (
    some (x4, σ)
  ) else (
    ckb x5 4 <|
    bd (f_C_bitsAt_1 N σ (ga σ 16 (x5).toNatClampNeg)) fun r1 s2 =>
    k6 s2 x2 (x4 ||| r1) (x5 + 1)
  )
def f_C_bitsIn_3_6 (N : Nat) : Nat → St → Int32 → Int32 → Int32 → Option (Int32 × St)
  | 0 => fun _ _ _ _ => none
  | n + 1 => f_C_bitsIn_3_6_b N (f_C_bitsIn_3_6 N n)
def f_C_bitsIn_3 (N : Nat) (σ : St) (x2 : Int32) : Option (Int32 × St) :=
  f_C_bitsIn_3_6 N N σ x2 (0 : Int32) (0 : Int32)
def f_C_hasEarlyAggregate (N : Nat) (σ : St) : Option (Int32 × St) :=
  bd (f_C_bitsIn_2 N σ (gi σ 3)) fun r1 s2 =>
  bd (f_C_bitsAt_1 N s2 (gi s2 4)) fun r3 s4 =>
  bd (f_C_bitsIn_3 N s4 (gi s4 6)) fun r5 s6 =>
  if ((r1 ||| r3) ||| r5) = 0 then (
    some ((0 : Int32), s6)
  ) else (
    some ((1 : Int32), s6)
  )
def f_C_bitsIn_4_6_b (N : Nat) (k6 : St → Int32 → Int32 → Int32 → Option (Int32 × St)) (σ : St) (x2 : Int32) (x4 : Int32) (x5 : Int32) : Option (Int32 × St) :=
  if x2 ≤ x5 then (
    some (x4, σ)
  ) else (
    ckb x5 6 <|
    bd (f_C_bitsAt_1 N σ (ga σ 17 (x5).toNatClampNeg)) fun r1 s2 =>
    k6 s2 x2 (x4 ||| r1) (x5 + 1)
  )
def f_C_bitsIn_4_6 (N : Nat) : Nat → St → Int32 → Int32 → Int32 → Option (Int32 × St)
  | 0 => fun _ _ _ _ => none
  | n + 1 => f_C_bitsIn_4_6_b N (f_C_bitsIn_4_6 N n)
def f_C_bitsIn_4 (N : Nat) (σ : St) (x2 : Int32) : Option (Int32 × St) :=
  f_C_bitsIn_4_6 N N σ x2 (0 : Int32) (0 : Int32)
def f_C_lateAggregates (N : Nat) (σ : St) : Option (Int32 × St) :=
  bd (f_C_bitsIn_4 N σ (gi σ 7)) fun r1 s2 =>
  bd (f_C_bitsAt_1 N s2 (gi s2 5)) fun r3 s4 =>
  some ((r1 ||| r3), s4)
def f_C_isGrouped (N : Nat) (σ : St) : Option (Int32 × St) :=
  if 0 < (gi σ 6) then (
    some ((1 : Int32), σ)
  ) else (
    if (gi σ 5) = (-1 : Int32) then (
      bd (f_C_lateAggregates N σ) fun r1 s2 =>
      if r1 = 0 then (
        some ((0 : Int32), s2)
      ) else (
        some ((1 : Int32), s2)
      )
    ) else (
      some ((1 : Int32), σ)
    )
  )
def f_E_isAlike (N : Nat) (σ : St) (x1 : Int32) (x2 : Int32) : Option (Int32 × St) :=
  ckb x1 60 <|
  ckb x2 60 <|
  if (ga σ 7 (x1).toNatClampNeg) = (ga σ 7 (x2).toNatClampNeg) then (
    some ((1 : Int32), σ)
  ) else (
    some ((0 : Int32), σ)
  )
def f_C_isLikeGroup_2_b (N : Nat) (k2 : St → Int32 → Int32 → Option (Int32 × St)) (σ : St) (x1 : Int32) (x2 : Int32) : Option (Int32 × St) :=
  if (gi σ 6) ≤ x2 then (
    some ((0 : Int32), σ)
  ) else (
    ckb x2 4 <|
    bd (f_E_isAlike N σ x1 (ga σ 16 (x2).toNatClampNeg)) fun r1 s2 =>
    if r1 = 0 then (
      k2 s2 x1 (x2 + 1)
    ) else (
      some ((1 : Int32), s2)
    )
  )
def f_C_isLikeGroup_2 (N : Nat) : Nat → St → Int32 → Int32 → Option (Int32 × St)
  | 0 => fun _ _ _ => none
  | n + 1 => f_C_isLikeGroup_2_b N (f_C_isLikeGroup_2 N n)
def f_C_isLikeGroup (N : Nat) (σ : St) (x1 : Int32) : Option (Int32 × St) :=
  f_C_isLikeGroup_2 N N σ x1 (0 : Int32)
def f_C_isLoose_22 (N : Nat) (σ : St) (x2 : Int32) : Option (Int32 × St) :=
  if x2 = (15 : Int32) then (
    some ((1 : Int32), σ)
  ) else (
    some ((0 : Int32), σ)
  )
def f_C_isLoose_75 (N : Nat) (σ : St) (x4 : Int32) : Option (Int32 × St) :=
  bd (f_E_has N σ x4) fun r3 s4 =>
  if r3 = 0 then (
    some ((0 : Int32), s4)
  ) else (
    ckb x4 60 <|
    if (ga s4 22 (x4).toNatClampNeg) = 0 then (
      some ((0 : Int32), s4)
    ) else (
      some ((1 : Int32), s4)
    )
  )
def f_C_isLoose (N : Nat) (σ : St) (x1 : Int32) : Option (Int32 × St) :=
  ckb x1 60 <|
  if (ga σ 3 (x1).toNatClampNeg) = (15 : Int32) then (
    f_C_isLoose_22 N σ (ga σ 3 (x1).toNatClampNeg)
  ) else (
    if (ga σ 3 (x1).toNatClampNeg) = (16 : Int32) then (
      f_C_isLoose_22 N σ (ga σ 3 (x1).toNatClampNeg)
    ) else (
      ckb x1 60 <|
      ckb x1 60 <|
      bd (f_E_has N σ (ga σ 4 (x1).toNatClampNeg)) fun r1 s2 =>
      if r1 = 0 then (
        f_C_isLoose_75 N s2 (ga σ 5 (x1).toNatClampNeg)
      ) else (
        ckb (ga σ 4 (x1).toNatClampNeg) 60 <|
        if (ga s2 22 ((ga σ 4 (x1).toNatClampNeg)).toNatClampNeg) = 0 then (
          f_C_isLoose_75 N s2 (ga σ 5 (x1).toNatClampNeg)
        ) else (
          some ((1 : Int32), s2)
        )
      )
    )
  )
def f_C_hasLooseColumn_48_b (N : Nat) (k48 : St → Int32 → Option (Int32 × St)) (σ : St) (x1 : Int32) : Option (Int32 × St) :=
  if (gi σ 7) ≤ x1 then (
    bd (f_E_has N σ (gi σ 5)) fun r1 s2 =>
    if r1 = 0 then (
      some ((0 : Int32), s2)
    ) else (
      ckb (gi s2 5) 60 <|
      if (ga s2 22 ((gi s2 5)).toNatClampNeg) = 0 then (
        some ((0 : Int32), s2)
      ) else (
        some ((1 : Int32), s2)
      )
    )
  ) else (
    ckb x1 6 <|
    ckb (ga σ 17 (x1).toNatClampNeg) 60 <|
    if (ga σ 22 ((ga σ 17 (x1).toNatClampNeg)).toNatClampNeg) = 0 then (
      k48 σ (x1 + 1)
    ) else (
      some ((1 : Int32), σ)
    )
  )
def f_C_hasLooseColumn_48 (N : Nat) : Nat → St → Int32 → Option (Int32 × St)
  | 0 => fun _ _ => none
  | n + 1 => f_C_hasLooseColumn_48_b N (f_C_hasLooseColumn_48 N n)
def f_C_hasLooseColumn_2_b (N : Nat) (k2 : St → Int32 → Option (Int32 × St)) (σ : St) (x1 : Int32) : Option (Int32 × St) :=
  if (gi σ 1) ≤ x1 then (
    f_C_hasLooseColumn_48 N N σ (0 : Int32)
  ) else (
    bd (f_C_isLikeGroup N σ x1) fun r3 s4 =>
    if r3 = 0 then (
      bd (f_C_isLoose N s4 x1) fun r6 s7 =>
      if r6 = 0 then (
        ckb x1 60 <|
        nm (wz s7 22 x1 (0 : Int32)) fun s8 =>
        k2 s8 (x1 + 1)
      ) else (
        ckb x1 60 <|
        nm (wz s7 22 x1 (1 : Int32)) fun s9 =>
        k2 s9 (x1 + 1)
      )
    ) else (
      ckb x1 60 <|
      nm (wz s4 22 x1 (0 : Int32)) fun s5 =>
      k2 s5 (x1 + 1)
    )
  )
def f_C_hasLooseColumn_2 (N : Nat) : Nat → St → Int32 → Option (Int32 × St)
  | 0 => fun _ _ => none
  | n + 1 => f_C_hasLooseColumn_2_b N (f_C_hasLooseColumn_2 N n)
def f_C_hasLooseColumn (N : Nat) (σ : St) : Option (Int32 × St) :=
  f_C_hasLooseColumn_2 N N σ (0 : Int32)
def f_C_firstFault (N : Nat) (σ : St) : Option (Int32 × St) :=
  if (gi σ 3) = 0 then (
    some ((-1 : Int32), σ)
  ) else (
    if (gi σ 7) = 0 then (
      some ((-1 : Int32), σ)
    ) else (
      bd (f_C_hasUnknownColumn N σ) fun r1 s2 =>
      if r1 = 0 then (
        bd (f_C_hasEarlyAggregate N s2) fun r3 s4 =>
        if r3 = 0 then (
          bd (f_C_isGrouped N s4) fun r5 s6 =>
          if r5 = 0 then (
            some ((0 : Int32), s6)
          ) else (
            bd (f_C_hasLooseColumn N s6) fun r7 s8 =>
            if r7 = 0 then (
              some ((0 : Int32), s8)
            ) else (
              some ((-13 : Int32), s8)
            )
          )
        ) else (
          some ((-12 : Int32), s4)
        )
      ) else (
        some ((-11 : Int32), s2)
      )
    )
  )
def f_G_openGroup_9_b (N : Nat) (k9 : St → Int32 → Int32 → Option (Unit × St)) (σ : St) (x1 : Int32) (x2 : Int32) : Option (Unit × St) :=
  if (8 : Int32) ≤ x2 then (
    nm (si σ 18 (x1 + (1 : Int32))) fun s2 =>
    some ((), s2)
  ) else (
    ckb ((x1 * (8 : Int32)) + x2) 4096 <|
    nm (wa σ 30 ((x1 * (8 : Int32)) + x2) (0 : Int32)) fun s3 =>
    ckb ((x1 * (8 : Int32)) + x2) 4096 <|
    nm (wl s3 5 ((x1 * (8 : Int32)) + x2) (0 : Int64)) fun s4 =>
    k9 s4 x1 (x2 + 1)
  )
def f_G_openGroup_9 (N : Nat) : Nat → St → Int32 → Int32 → Option (Unit × St)
  | 0 => fun _ _ _ => none
  | n + 1 => f_G_openGroup_9_b N (f_G_openGroup_9 N n)
def f_G_openGroup (N : Nat) (σ : St) (x1 : Int32) : Option (Unit × St) :=
  ckb x1 512 <|
  nm (wa σ 25 x1 (-1 : Int32)) fun s1 =>
  f_G_openGroup_9 N N s1 x1 (0 : Int32)
def f_G_clear (N : Nat) (σ : St) (x1 : Int32) : Option (Unit × St) :=
  nm (si σ 19 (0 : Int32)) fun s1 =>
  nm (si s1 18 (0 : Int32)) fun s2 =>
  if x1 = 0 then (
    some ((), s2)
  ) else (
    bd (f_G_openGroup N s2 (0 : Int32)) fun _ s4 =>
    some ((), s4)
  )
def f_R_prepare_93 (N : Nat) (g : Bool) (σ : St) (t0 : Int32) : Option (Int32 × Bool × St) :=
  bd (f_G_clear N σ t0) fun _ s10 =>
  some ((0 : Int32), g, s10)
def f_R_prepare_71 (N : Nat) (g : Bool) (σ : St) : Option (Int32 × Bool × St) :=
  if g = true then (
    if (gi σ 6) = 0 then (
      f_R_prepare_93 N g σ (1 : Int32)
    ) else (
      f_R_prepare_93 N g σ (0 : Int32)
    )
  ) else (
    none
  )
def f_R_prepare (N : Nat) (g : Bool) (σ : St) : Option (Int32 × Bool × St) :=
  bd (f_C_firstFault N σ) fun r1 s2 =>
  if r1 = 0 then (
    bd (f_C_isGrouped N s2) fun r3 s4 =>
    ckt r3 <|
    nm (si s4 16 r3) fun s5 =>
    bd (f_C_lateAggregates N s5) fun r6 s7 =>
    nm (si s7 17 r6) fun s8 =>
    if (gi s8 16) = 0 then (
      some ((0 : Int32), g, s8)
    ) else (
      if g = true then (
        f_R_prepare_71 N g s8
      ) else (
        nm (mkX s8) fun s11 =>
        f_R_prepare_71 N true s11
      )
    )
  ) else (
    some (r1, g, s2)
  )
def f_A_isNullAt (N : Nat) (σ : St) (x1 : Int32) (x2 : Int32) : Option (Int32 × St) :=
  ckb x1 200 <|
  if (((ga σ 20 (x1).toNatClampNeg) >>> (x2 &&& 31)) &&& (1 : Int32)) = 0 then (
    some ((0 : Int32), σ)
  ) else (
    some ((1 : Int32), σ)
  )
def f_L_compare (N : Nat) (σ : St) (x0 : Int64) (x2 : Int64) : Option (Int32 × St) :=
  if 0 ≤ (lg_cmp x0 x2) then (
    if (lg_cmp x0 x2) = 0 then (
      some ((0 : Int32), σ)
    ) else (
      some ((1 : Int32), σ)
    )
  ) else (
    some ((-1 : Int32), σ)
  )
def f_A_compareItem_40 (N : Nat) (σ : St) (x4 : Int32) : Option (Int32 × St) :=
  if x4 = 0 then (
    some ((1 : Int32), σ)
  ) else (
    some ((-1 : Int32), σ)
  )
def f_A_compareItem_26 (N : Nat) (σ : St) (x4 : Int32) (x5 : Int32) : Option (Int32 × St) :=
  if x4 = 0 then (
    f_A_compareItem_40 N σ x4
  ) else (
    if x5 = 0 then (
      f_A_compareItem_40 N σ x4
    ) else (
      some ((0 : Int32), σ)
    )
  )
def f_A_compareItem (N : Nat) (σ : St) (x1 : Int32) (x2 : Int32) (x3 : Int32) : Option (Int32 × St) :=
  bd (f_A_isNullAt N σ x1 x3) fun r1 s2 =>
  bd (f_A_isNullAt N s2 x2 x3) fun r3 s4 =>
  if r1 = 0 then (
    if r3 = 0 then (
      ckb ((x1 * (6 : Int32)) + x3) 1200 <|
      ckb ((x2 * (6 : Int32)) + x3) 1200 <|
      bd (f_L_compare N s4 (gb s4 2 (((x1 * (6 : Int32)) + x3)).toNatClampNeg) (gb s4 2 (((x2 * (6 : Int32)) + x3)).toNatClampNeg)) fun r5 s6 =>
      some (r5, s6)
    ) else (
      f_A_compareItem_26 N s4 r1 r3
    )
  ) else (
    f_A_compareItem_26 N s4 r1 r3
  )
def f_A_compare_3_b (N : Nat) (k3 : St → Int32 → Int32 → Int32 → Option (Int32 × St)) (σ : St) (x1 : Int32) (x2 : Int32) (x4 : Int32) : Option (Int32 × St) :=
  if (gi σ 8) ≤ x4 then (
    some ((0 : Int32), σ)
  ) else (
    ckb x4 4 <|
    bd (f_A_compareItem N σ x1 x2 (ga σ 18 (x4).toNatClampNeg)) fun r1 s2 =>
    if r1 = 0 then (
      k3 s2 x1 x2 (x4 + 1)
    ) else (
      ckb x4 4 <|
      if (ga s2 19 (x4).toNatClampNeg) = 0 then (
        some (r1, s2)
      ) else (
        some ((-r1), s2)
      )
    )
  )
def f_A_compare_3 (N : Nat) : Nat → St → Int32 → Int32 → Int32 → Option (Int32 × St)
  | 0 => fun _ _ _ _ => none
  | n + 1 => f_A_compare_3_b N (f_A_compare_3 N n)
def f_A_compare (N : Nat) (σ : St) (x1 : Int32) (x2 : Int32) : Option (Int32 × St) :=
  f_A_compare_3 N N σ x1 x2 (0 : Int32)
def f_A_insertInOrder_3_b (N : Nat) (k3 : St → Int32 → Int32 → Option (Unit × St)) (σ : St) (x1 : Int32) (x4 : Int32) : Option (Unit × St) :=
  if x4 ≤ 0 then (
    ckb x4 200 <|
    nm (wa σ 21 x4 x1) fun s1 =>
    some ((), s1)
  ) else (
    ckb (x4 - (1 : Int32)) 200 <|
    bd (f_A_compare N σ (ga σ 21 ((x4 - (1 : Int32))).toNatClampNeg) x1) fun r2 s3 =>
    if r2 ≤ 0 then (
      ckb x4 200 <|
      nm (wa s3 21 x4 x1) fun s4 =>
      some ((), s4)
    ) else (
      ckb (x4 - (1 : Int32)) 200 <|
      ckb x4 200 <|
      nm (wa s3 21 x4 (ga s3 21 ((x4 - (1 : Int32))).toNatClampNeg)) fun s5 =>
      k3 s5 x1 (x4 + Int32.ofInt (-1))
    )
  )
def f_A_insertInOrder_3 (N : Nat) : Nat → St → Int32 → Int32 → Option (Unit × St)
  | 0 => fun _ _ _ => none
  | n + 1 => f_A_insertInOrder_3_b N (f_A_insertInOrder_3 N n)
def f_A_insertInOrder (N : Nat) (σ : St) (x1 : Int32) (x2 : Int32) : Option (Unit × St) :=
  f_A_insertInOrder_3 N N σ x1 x2
def f_A_isRepeated_84 (N : Nat) (k2 : St → Int32 → Int32 → Option (Int32 × St)) (σ : St) (x1 : Int32) (x2 : Int32) (x3 : Int32) : Option (Int32 × St) :=
  if x3 = 0 then (
    k2 σ x1 (x2 + 1)
  ) else (
    some ((1 : Int32), σ)
  )
def f_A_isRepeated_31_b (N : Nat) (k2 : St → Int32 → Int32 → Option (Int32 × St)) (k31 : St → Int32 → Int32 → Int32 → Int32 → Option (Int32 × St)) (σ : St) (x1 : Int32) (x2 : Int32) (x3 : Int32) (x4 : Int32) : Option (Int32 × St) :=
  if x3 = 0 then (
    f_A_isRepeated_84 N k2 σ x1 x2 x3
  ) else (
    if (gi σ 12) ≤ x4 then (
      f_A_isRepeated_84 N k2 σ x1 x2 x3
    ) else (
      ckb ((x2 * (6 : Int32)) + x4) 1200 <|
      ckb ((x1 * (6 : Int32)) + x4) 1200 <|
      if (lg_cmp (gb σ 2 (((x2 * (6 : Int32)) + x4)).toNatClampNeg) (gb σ 2 (((x1 * (6 : Int32)) + x4)).toNatClampNeg)) = 0 then (
        k31 σ x1 x2 (1 : Int32) (x4 + 1)
      ) else (
        k31 σ x1 x2 (0 : Int32) (x4 + 1)
      )
    )
  )
def f_A_isRepeated_31 (N : Nat) (k2 : St → Int32 → Int32 → Option (Int32 × St)) : Nat → St → Int32 → Int32 → Int32 → Int32 → Option (Int32 × St)
  | 0 => fun _ _ _ _ _ => none
  | n + 1 => f_A_isRepeated_31_b N k2 (f_A_isRepeated_31 N k2 n)
def f_A_isRepeated_2_b (N : Nat) (k2 : St → Int32 → Int32 → Option (Int32 × St)) (σ : St) (x1 : Int32) (x2 : Int32) : Option (Int32 × St) :=
  if x1 ≤ x2 then (
    some ((0 : Int32), σ)
  ) else (
    ckb x2 200 <|
    ckb x1 200 <|
    if (ga σ 20 (x2).toNatClampNeg) = (ga σ 20 (x1).toNatClampNeg) then (
      f_A_isRepeated_31 N k2 N σ x1 x2 (1 : Int32) (0 : Int32)
    ) else (
      f_A_isRepeated_31 N k2 N σ x1 x2 (0 : Int32) (0 : Int32)
    )
  )
def f_A_isRepeated_2 (N : Nat) : Nat → St → Int32 → Int32 → Option (Int32 × St)
  | 0 => fun _ _ _ => none
  | n + 1 => f_A_isRepeated_2_b N (f_A_isRepeated_2 N n)
def f_A_isRepeated (N : Nat) (σ : St) (x1 : Int32) : Option (Int32 × St) :=
  f_A_isRepeated_2 N N σ x1 (0 : Int32)
def f_A_finish_35 (N : Nat) (k12 : St → Int32 → Int32 → Option (Unit × St)) (σ : St) (x2 : Int32) (x3 : Int32) : Option (Unit × St) :=
  bd (f_A_insertInOrder N σ x3 x2) fun _ s5 =>
  k12 s5 (x2 + 1) (x3 + 1)
def f_A_finish_12_b (N : Nat) (k12 : St → Int32 → Int32 → Option (Unit × St)) (σ : St) (x2 : Int32) (x3 : Int32) : Option (Unit × St) :=
  if (gi σ 14) ≤ x3 then (
    nm (si σ 15 (if x2 < (gi σ 11) then x2 else (gi σ 11))) fun s2 =>
    nm (si s2 13 (if (x2 - (gi s2 15)) < (gi s2 10) then (x2 - (gi s2 15)) else (gi s2 10))) fun s3 =>
    some ((), s3)
  ) else (
    if (gi σ 9) = 0 then (
      f_A_finish_35 N k12 σ x2 x3
    ) else (
      bd (f_A_isRepeated N σ x3) fun r6 s7 =>
      if r6 = 0 then (
        f_A_finish_35 N k12 s7 x2 x3
      ) else (
        k12 s7 x2 (x3 + 1)
      )
    )
  )
def f_A_finish_12 (N : Nat) : Nat → St → Int32 → Int32 → Option (Unit × St)
  | 0 => fun _ _ _ => none
  | n + 1 => f_A_finish_12_b N (f_A_finish_12 N n)
def f_A_finish (N : Nat) (σ : St) : Option (Unit × St) :=
  nm (si σ 12 (gi σ 7)) fun s1 =>
  f_A_finish_12 N N s1 (0 : Int32) (0 : Int32)
def f_G_enter_32_b (N : Nat) (k32 : St → Int32 → Int32 → Option (Unit × St)) (σ : St) (x4 : Int32) (x5 : Int32) : Option (Unit × St) :=
  if (3 : Int32) ≤ x5 then (
    some ((), σ)
  ) else (
    ckb x5 3 <|
    nm (wa σ 23 x5 (((x4 >>> (((4 : Int32) * x5) &&& 31)) &&& (15 : Int32)) - (1 : Int32))) fun s2 =>
    k32 s2 x4 (x5 + 1)
  )
def f_G_enter_32 (N : Nat) : Nat → St → Int32 → Int32 → Option (Unit × St)
  | 0 => fun _ _ _ => none
  | n + 1 => f_G_enter_32_b N (f_G_enter_32 N n)
def f_G_enter (N : Nat) (σ : St) (x1 : Int32) : Option (Unit × St) :=
  nm (si σ 20 x1) fun s1 =>
  ckb x1 512 <|
  if (ga s1 25 (x1).toNatClampNeg) = (-1 : Int32) then (
    f_G_enter_32 N N s1 (0 : Int32) (0 : Int32)
  ) else (
    ckb (ga s1 25 (x1).toNatClampNeg) 512 <|
    f_G_enter_32 N N s1 (ga s1 28 ((ga s1 25 (x1).toNatClampNeg)).toNatClampNeg) (0 : Int32)
  )
def f_A_isFull (N : Nat) (σ : St) : Option (Int32 × St) :=
  if (gi σ 14) < (200 : Int32) then (
    some ((0 : Int32), σ)
  ) else (
    some ((1 : Int32), σ)
  )
def f_A_startRow (N : Nat) (σ : St) : Option (Unit × St) :=
  ckb (gi σ 14) 200 <|
  nm (wa σ 20 (gi σ 14) (0 : Int32)) fun s1 =>
  some ((), s1)
def f_A_endRow (N : Nat) (σ : St) : Option (Unit × St) :=
  nm (si σ 14 ((gi σ 14) + (1 : Int32))) fun s1 =>
  some ((), s1)
def f_V_lookUp (N : Nat) (σ : St) (x1 : Int32) : Option (Int32 × St) :=
  ckb (x1 / (4 : Int32)) 3 <|
  if (ga σ 23 ((x1 / (4 : Int32))).toNatClampNeg) = (-1 : Int32) then (
    some ((0 : Int32), σ)
  ) else (
    ckb (x1 / (4 : Int32)) 3 <|
    ckb (((ga σ 13 ((x1 / (4 : Int32))).toNatClampNeg) * (8 : Int32)) + (ga σ 23 ((x1 / (4 : Int32))).toNatClampNeg)) 48 <|
    if (((ga σ 2 ((((ga σ 13 ((x1 / (4 : Int32))).toNatClampNeg) * (8 : Int32)) + (ga σ 23 ((x1 / (4 : Int32))).toNatClampNeg))).toNatClampNeg) >>> ((x1 - x1 / (4 : Int32) * (4 : Int32)) &&& 31)) &&& (1 : Int32)) = 0 then (
      ckb (((((ga σ 13 ((x1 / (4 : Int32))).toNatClampNeg) * (8 : Int32)) + (ga σ 23 ((x1 / (4 : Int32))).toNatClampNeg)) * (4 : Int32)) + (x1 - x1 / (4 : Int32) * (4 : Int32))) 192 <|
      nm (sl σ 0 (gb σ 0 ((((((ga σ 13 ((x1 / (4 : Int32))).toNatClampNeg) * (8 : Int32)) + (ga σ 23 ((x1 / (4 : Int32))).toNatClampNeg)) * (4 : Int32)) + (x1 - x1 / (4 : Int32) * (4 : Int32)))).toNatClampNeg)) fun s1 =>
      some ((1 : Int32), s1)
    ) else (
      some ((0 : Int32), σ)
    )
  )
def f_G_resultOf (N : Nat) (σ : St) (x1 : Int32) : Option (Int64 × St) :=
  ckb (((gi σ 20) * (8 : Int32)) + x1) 4096 <|
  ckb (((gi σ 20) * (8 : Int32)) + x1) 4096 <|
  ckb x1 8 <|
  if (ga σ 10 (x1).toNatClampNeg) = 0 then (
    some (((ga σ 30 ((((gi σ 20) * (8 : Int32)) + x1)).toNatClampNeg)).toInt64, σ)
  ) else (
  if (ga σ 10 (x1).toNatClampNeg) = 1 then (
    some (((ga σ 30 ((((gi σ 20) * (8 : Int32)) + x1)).toNatClampNeg)).toInt64, σ)
  ) else (
  if (ga σ 10 (x1).toNatClampNeg) = 5 then (
    if (ga σ 30 ((((gi σ 20) * (8 : Int32)) + x1)).toNatClampNeg) = 0 then (
      some ((0 : Int64), σ)
    ) else (
      ckzl ((ga σ 30 ((((gi σ 20) * (8 : Int32)) + x1)).toNatClampNeg)).toInt64 <|
      some (((gb σ 5 ((((gi σ 20) * (8 : Int32)) + x1)).toNatClampNeg) / ((ga σ 30 ((((gi σ 20) * (8 : Int32)) + x1)).toNatClampNeg)).toInt64), σ)
    )
  ) else (
    some ((gb σ 5 ((((gi σ 20) * (8 : Int32)) + x1)).toNatClampNeg), σ)
  )
  )
  )
def f_G_hasResult (N : Nat) (σ : St) (x1 : Int32) : Option (Int32 × St) :=
  ckb x1 8 <|
  if (ga σ 10 (x1).toNatClampNeg) = 0 then (
    some ((1 : Int32), σ)
  ) else (
    if (ga σ 10 (x1).toNatClampNeg) = (1 : Int32) then (
      some ((1 : Int32), σ)
    ) else (
      ckb (((gi σ 20) * (8 : Int32)) + x1) 4096 <|
      if (ga σ 30 ((((gi σ 20) * (8 : Int32)) + x1)).toNatClampNeg) = 0 then (
        some ((0 : Int32), σ)
      ) else (
        some ((1 : Int32), σ)
      )
    )
  )
def f_V_ofGroup (N : Nat) (g : Bool) (σ : St) (x1 : Int32) : Option (Int32 × St) :=
  if g = true then (
    if g = true then (
      bd (f_G_resultOf N σ x1) fun r1 s2 =>
      nm (sl s2 0 r1) fun s3 =>
      if g = true then (
        bd (f_G_hasResult N s3 x1) fun r4 s5 =>
        if r4 = 0 then (
          some ((0 : Int32), s5)
        ) else (
          some ((1 : Int32), s5)
        )
      ) else (
        none
      )
    ) else (
      none
    )
  ) else (
    some ((0 : Int32), σ)
  )
def f_V_calculate_127 (N : Nat) (σ : St) (x6 : Int64) : Option (Int32 × St) :=
  if (lg_cmp x6 (-1000000000000000 : Int64)) < 0 then (
    some ((-21 : Int32), σ)
  ) else (
    if (lg_cmp x6 (1000000000000000 : Int64)) ≤ 0 then (
      nm (sl σ 0 x6) fun s1 =>
      some ((1 : Int32), s1)
    ) else (
      some ((-21 : Int32), σ)
    )
  )
def f_V_calculate_90 (N : Nat) (σ : St) (x2 : Int64) (x4 : Int64) : Option (Int32 × St) :=
  f_V_calculate_127 N σ (x2 * x4)
def f_V_calculate_82 (N : Nat) (σ : St) (x2 : Int64) (x4 : Int64) (t0 : Int64) (t1 : Int64) (t2 : Int64) : Option (Int32 × St) :=
  ckzl t0 <|
  if (lg_cmp t2 (t1 / t0)) ≤ 0 then (
    f_V_calculate_90 N σ x2 x4
  ) else (
    some ((-21 : Int32), σ)
  )
def f_V_calculate_67 (N : Nat) (σ : St) (x2 : Int64) (x4 : Int64) (t0 : Int64) : Option (Int32 × St) :=
  if 0 ≤ (lg_cmp x2 (0 : Int64)) then (
    f_V_calculate_82 N σ x2 x4 x2 (1000000000000000 : Int64) t0
  ) else (
    f_V_calculate_82 N σ x2 x4 (-x2) (1000000000000000 : Int64) t0
  )
def f_V_calculate_125 (N : Nat) (σ : St) (t0 : Int64) : Option (Int32 × St) :=
  f_V_calculate_127 N σ t0
def f_V_calculate (N : Nat) (σ : St) (x1 : Int32) (x2 : Int64) (x4 : Int64) : Option (Int32 × St) :=
  if x1 = 0 then (
    f_V_calculate_127 N σ (x2 + x4)
  ) else (
  if x1 = 1 then (
    f_V_calculate_127 N σ (x2 - x4)
  ) else (
  if x1 = 2 then (
    if (lg_cmp x2 (0 : Int64)) = 0 then (
      f_V_calculate_90 N σ x2 x4
    ) else (
      if 0 ≤ (lg_cmp x4 (0 : Int64)) then (
        f_V_calculate_67 N σ x2 x4 x4
      ) else (
        f_V_calculate_67 N σ x2 x4 (-x4)
      )
    )
  ) else (
    if (lg_cmp x4 (0 : Int64)) = 0 then (
      some ((-20 : Int32), σ)
    ) else (
      if x1 = (3 : Int32) then (
        ckzl x4 <|
        f_V_calculate_125 N σ (x2 / x4)
      ) else (
        ckzl x4 <|
        f_V_calculate_125 N σ (x2 - x2 / x4 * x4)
      )
    )
  )
  )
  )
def f_V_value_b (N : Nat) (g : Bool) (rc : Nat → St → Int32 → Int32 → Option (Int32 × St)) (σ : St) (x1 : Int32) (x2 : Int32) : Option (Int32 × St) :=
  nm (sl σ 0 (0 : Int64)) fun s1 =>
  if (60 : Int32) ≤ x2 then (
    some ((0 : Int32), s1)
  ) else (
    bd (f_E_has N s1 x1) fun r2 s3 =>
    if r2 = 0 then (
      some ((0 : Int32), s3)
    ) else (
      ckb x1 60 <|
      if (ga s3 3 (x1).toNatClampNeg) = 13 then (
        ckb x1 60 <|
        nm (sl s3 0 (gb s3 1 (x1).toNatClampNeg)) fun s4 =>
        some ((1 : Int32), s4)
      ) else (
      if (ga s3 3 (x1).toNatClampNeg) = 14 then (
        some ((0 : Int32), s3)
      ) else (
      if (ga s3 3 (x1).toNatClampNeg) = 15 then (
        ckb x1 60 <|
        bd (f_V_lookUp N s3 ((gb s3 1 (x1).toNatClampNeg)).toInt32) fun r5 s6 =>
        some (r5, s6)
      ) else (
      if (ga s3 3 (x1).toNatClampNeg) = 16 then (
        ckb x1 60 <|
        bd (f_V_ofGroup N g s3 ((gb s3 1 (x1).toNatClampNeg)).toInt32) fun r7 s8 =>
        some (r7, s8)
      ) else (
        bd (rc 2 s3 x1 x2) fun r9 s10 =>
        if r9 = (1 : Int32) then (
          ckb x1 60 <|
          bd (f_V_calculate N s10 (ga s10 3 (x1).toNatClampNeg) (gl s10 1) (gl s10 0)) fun r11 s12 =>
          some (r11, s12)
        ) else (
          some (r9, s10)
        )
      )
      )
      )
      )
    )
  )
def f_V_compares (N : Nat) (σ : St) (x0 : Int32) (x1 : Int64) (x3 : Int64) : Option (Int32 × St) :=
  if x0 = 5 then (
    if (lg_cmp x1 x3) = 0 then (
      some ((1 : Int32), σ)
    ) else (
      some ((0 : Int32), σ)
    )
  ) else (
  if x0 = 6 then (
    if (lg_cmp x1 x3) = 0 then (
      some ((0 : Int32), σ)
    ) else (
      some ((1 : Int32), σ)
    )
  ) else (
  if x0 = 7 then (
    if 0 ≤ (lg_cmp x1 x3) then (
      some ((0 : Int32), σ)
    ) else (
      some ((1 : Int32), σ)
    )
  ) else (
    if 0 < (lg_cmp x1 x3) then (
      some ((0 : Int32), σ)
    ) else (
      some ((1 : Int32), σ)
    )
  )
  )
  )
def f_V_truth_41 (N : Nat) (g : Bool) (rc : Nat → St → Int32 → Int32 → Option (Int32 × St)) (σ : St) (x1 : Int32) (x2 : Int32) : Option (Int32 × St) :=
  bd (rc 3 σ x1 x2) fun r3 s4 =>
  some (r3, s4)
def f_V_truth_b (N : Nat) (g : Bool) (rc : Nat → St → Int32 → Int32 → Option (Int32 × St)) (σ : St) (x1 : Int32) (x2 : Int32) : Option (Int32 × St) :=
  if (60 : Int32) ≤ x2 then (
    some ((2 : Int32), σ)
  ) else (
    bd (f_E_has N σ x1) fun r1 s2 =>
    if r1 = 0 then (
      some ((2 : Int32), s2)
    ) else (
      ckb x1 60 <|
      if (ga s2 3 (x1).toNatClampNeg) = (9 : Int32) then (
        f_V_truth_41 N g rc s2 x1 x2
      ) else (
        if (ga s2 3 (x1).toNatClampNeg) = (10 : Int32) then (
          f_V_truth_41 N g rc s2 x1 x2
        ) else (
          if (ga s2 3 (x1).toNatClampNeg) = (11 : Int32) then (
            ckb x1 60 <|
            bd (rc 1 s2 (ga s2 4 (x1).toNatClampNeg) (x2 + (1 : Int32))) fun r11 s12 =>
            if r11 = (1 : Int32) then (
              some ((0 : Int32), s12)
            ) else (
              if r11 = 0 then (
                some ((1 : Int32), s12)
              ) else (
                some (r11, s12)
              )
            )
          ) else (
            if (ga s2 3 (x1).toNatClampNeg) = (12 : Int32) then (
              ckb x1 60 <|
              bd (rc 0 s2 (ga s2 4 (x1).toNatClampNeg) (x2 + (1 : Int32))) fun r9 s10 =>
              if 0 ≤ r9 then (
                if r9 = 0 then (
                  some ((1 : Int32), s10)
                ) else (
                  some ((0 : Int32), s10)
                )
              ) else (
                some (r9, s10)
              )
            ) else (
              bd (rc 2 s2 x1 x2) fun r5 s6 =>
              if 0 ≤ r5 then (
                if r5 = 0 then (
                  some ((2 : Int32), s6)
                ) else (
                  bd (f_V_compares N s6 (ga s2 3 (x1).toNatClampNeg) (gl s6 1) (gl s6 0)) fun r7 s8 =>
                  if r7 = 0 then (
                    some ((0 : Int32), s8)
                  ) else (
                    some ((1 : Int32), s8)
                  )
                )
              ) else (
                some (r5, s6)
              )
            )
          )
        )
      )
    )
  )
def f_V_operands_b (N : Nat) (g : Bool) (rc : Nat → St → Int32 → Int32 → Option (Int32 × St)) (σ : St) (x1 : Int32) (x2 : Int32) : Option (Int32 × St) :=
  ckb x1 60 <|
  bd (rc 0 σ (ga σ 4 (x1).toNatClampNeg) (x2 + (1 : Int32))) fun r1 s2 =>
  if 0 ≤ r1 then (
    ckb x1 60 <|
    bd (rc 0 s2 (ga s2 5 (x1).toNatClampNeg) (x2 + (1 : Int32))) fun r3 s4 =>
    if 0 ≤ r3 then (
      if r1 = 0 then (
        nm (sl s4 0 (0 : Int64)) fun s5 =>
        some ((0 : Int32), s5)
      ) else (
        if r3 = 0 then (
          nm (sl s4 0 (0 : Int64)) fun s7 =>
          some ((0 : Int32), s7)
        ) else (
          nm (sl s4 1 (gl s2 0)) fun s6 =>
          some ((1 : Int32), s6)
        )
      )
    ) else (
      some (r3, s4)
    )
  ) else (
    some (r1, s2)
  )
def f_V_junction_19 (N : Nat) (g : Bool) (rc : Nat → St → Int32 → Int32 → Option (Int32 × St)) (σ : St) (x1 : Int32) (x2 : Int32) (t0 : Int32) : Option (Int32 × St) :=
  ckb x1 60 <|
  bd (rc 1 σ (ga σ 4 (x1).toNatClampNeg) (x2 + (1 : Int32))) fun r1 s2 =>
  if r1 < 0 then (
    some (r1, s2)
  ) else (
    if r1 = t0 then (
      some (r1, s2)
    ) else (
      ckb x1 60 <|
      bd (rc 1 s2 (ga s2 5 (x1).toNatClampNeg) (x2 + (1 : Int32))) fun r3 s4 =>
      if r3 < 0 then (
        some (r3, s4)
      ) else (
        if r3 = t0 then (
          some (r3, s4)
        ) else (
          if r1 = (2 : Int32) then (
            some ((2 : Int32), s4)
          ) else (
            some (r3, s4)
          )
        )
      )
    )
  )
def f_V_junction_b (N : Nat) (g : Bool) (rc : Nat → St → Int32 → Int32 → Option (Int32 × St)) (σ : St) (x1 : Int32) (x2 : Int32) : Option (Int32 × St) :=
  ckb x1 60 <|
  if (ga σ 3 (x1).toNatClampNeg) = (9 : Int32) then (
    f_V_junction_19 N g rc σ x1 x2 (0 : Int32)
  ) else (
    f_V_junction_19 N g rc σ x1 x2 (1 : Int32)
  )
def f_ev (N : Nat) (g : Bool) : Nat → Nat → St → Int32 → Int32 → Option (Int32 × St)
  | 0 => fun _ _ _ _ => none
  | n + 1 => fun t σ x1 x2 => match t with
    | 0 => f_V_value_b N g (f_ev N g n) σ x1 x2
    | 1 => f_V_truth_b N g (f_ev N g n) σ x1 x2
    | 2 => f_V_operands_b N g (f_ev N g n) σ x1 x2
    | _ => f_V_junction_b N g (f_ev N g n) σ x1 x2
def f_A_setItem_22 (N : Nat) (σ : St) (x1 : Int32) (x2 : Int32) (t0 : Int64) (t1 : Int32) : Option (Unit × St) :=
  ckb t1 1200 <|
  nm (wl σ 2 t1 t0) fun s1 =>
  if x2 = 0 then (
    ckb (gi s1 14) 200 <|
    ckb (gi s1 14) 200 <|
    nm (wa s1 20 (gi s1 14) ((ga s1 20 ((gi s1 14)).toNatClampNeg) ||| ((1 : Int32) <<< (x1 &&& 31)))) fun s2 =>
    some ((), s2)
  ) else (
    some ((), s1)
  )
def f_A_setItem (N : Nat) (σ : St) (x1 : Int32) (x2 : Int32) (x3 : Int64) : Option (Unit × St) :=
  if x2 = 0 then (
    f_A_setItem_22 N σ x1 x2 (0 : Int64) (((gi σ 14) * (6 : Int32)) + x1)
  ) else (
    f_A_setItem_22 N σ x1 x2 x3 (((gi σ 14) * (6 : Int32)) + x1)
  )
def f_R_giveRow_22_b (N : Nat) (g : Bool) (k22 : St → Int32 → Option (Int32 × St)) (σ : St) (x1 : Int32) : Option (Int32 × St) :=
  if (gi σ 7) ≤ x1 then (
    bd (f_A_endRow N σ) fun _ s6 =>
    some ((0 : Int32), s6)
  ) else (
    ckb x1 6 <|
    bd (f_ev N g 130 0 σ (ga σ 17 (x1).toNatClampNeg) (0 : Int32)) fun r7 s8 =>
    if 0 ≤ r7 then (
      bd (f_A_setItem N s8 x1 r7 (gl s8 0)) fun _ s10 =>
      k22 s10 (x1 + 1)
    ) else (
      some (r7, s8)
    )
  )
def f_R_giveRow_22 (N : Nat) (g : Bool) : Nat → St → Int32 → Option (Int32 × St)
  | 0 => fun _ _ => none
  | n + 1 => f_R_giveRow_22_b N g (f_R_giveRow_22 N g n)
def f_R_giveRow (N : Nat) (g : Bool) (σ : St) : Option (Int32 × St) :=
  bd (f_A_isFull N σ) fun r1 s2 =>
  if r1 = 0 then (
    bd (f_A_startRow N s2) fun _ s4 =>
    f_R_giveRow_22 N g N s4 (0 : Int32)
  ) else (
    some ((-15 : Int32), s2)
  )
def f_R_giveGroups_95 (N : Nat) (g : Bool) (k23 : St → Int32 → Option (Int32 × St)) (σ : St) (x2 : Int32) (t0 : Int32) : Option (Int32 × St) :=
  if t0 = 0 then (
    k23 σ (x2 + 1)
  ) else (
    some (t0, σ)
  )
def f_R_giveGroups_73 (N : Nat) (g : Bool) (k23 : St → Int32 → Option (Int32 × St)) (σ : St) (x2 : Int32) (t0 : Int32) : Option (Int32 × St) :=
  if t0 = (1 : Int32) then (
    bd (f_R_giveRow N g σ) fun r3 s4 =>
    f_R_giveGroups_95 N g k23 s4 x2 r3
  ) else (
    if 0 ≤ t0 then (
      f_R_giveGroups_95 N g k23 σ x2 (0 : Int32)
    ) else (
      f_R_giveGroups_95 N g k23 σ x2 t0
    )
  )
def f_R_giveGroups_23_b (N : Nat) (g : Bool) (k23 : St → Int32 → Option (Int32 × St)) (σ : St) (x2 : Int32) : Option (Int32 × St) :=
  if (gi σ 18) ≤ x2 then (
    some ((0 : Int32), σ)
  ) else (
    bd (f_G_enter N σ x2) fun _ s2 =>
    if (gi s2 5) = (-1 : Int32) then (
      f_R_giveGroups_73 N g k23 s2 x2 (1 : Int32)
    ) else (
      bd (f_ev N g 130 1 s2 (gi s2 5) (0 : Int32)) fun r5 s6 =>
      f_R_giveGroups_73 N g k23 s6 x2 r5
    )
  )
def f_R_giveGroups_23 (N : Nat) (g : Bool) : Nat → St → Int32 → Option (Int32 × St)
  | 0 => fun _ _ => none
  | n + 1 => f_R_giveGroups_23_b N g (f_R_giveGroups_23 N g n)
def f_R_giveGroups (N : Nat) (g : Bool) (σ : St) : Option (Int32 × St) :=
  if g = true then (
    if (gi σ 16) = 0 then (
      some ((0 : Int32), σ)
    ) else (
      f_R_giveGroups_23 N g N σ (0 : Int32)
    )
  ) else (
    if (gi σ 16) = 0 then (
      some ((0 : Int32), σ)
    ) else (
      some ((0 : Int32), σ)
    )
  )
def f_G_isFull (N : Nat) (σ : St) : Option (Int32 × St) :=
  if (512 : Int32) ≤ (gi σ 19) then (
    some ((1 : Int32), σ)
  ) else (
    if (gi σ 18) < (512 : Int32) then (
      some ((0 : Int32), σ)
    ) else (
      some ((1 : Int32), σ)
    )
  )
def f_G_pack_4_b (N : Nat) (k4 : St → Int32 → Int32 → Option (Int32 × St)) (σ : St) (x1 : Int32) (x2 : Int32) : Option (Int32 × St) :=
  if (3 : Int32) ≤ x2 then (
    some (x1, σ)
  ) else (
    ckb x2 3 <|
    k4 σ (x1 ||| (((ga σ 23 (x2).toNatClampNeg) + (1 : Int32)) <<< (((4 : Int32) * x2) &&& 31))) (x2 + 1)
  )
def f_G_pack_4 (N : Nat) : Nat → St → Int32 → Int32 → Option (Int32 × St)
  | 0 => fun _ _ _ => none
  | n + 1 => f_G_pack_4_b N (f_G_pack_4 N n)
def f_G_pack (N : Nat) (σ : St) : Option (Int32 × St) :=
  f_G_pack_4 N N σ (0 : Int32) (0 : Int32)
def f_G_startRow (N : Nat) (σ : St) : Option (Unit × St) :=
  bd (f_G_pack N σ) fun r1 s2 =>
  ckb (gi σ 19) 512 <|
  nm (wa s2 28 (gi σ 19) r1) fun s3 =>
  ckb (gi s3 19) 512 <|
  nm (wa s3 29 (gi s3 19) (0 : Int32)) fun s4 =>
  ckb (gi s4 18) 512 <|
  nm (wa s4 24 (gi s4 18) (0 : Int32)) fun s5 =>
  some ((), s5)
def f_G_groupOfKeys_88 (N : Nat) (k2 : St → Int32 → Int32 → Option (Int32 × St)) (σ : St) (x1 : Int32) (x2 : Int32) (x3 : Int32) : Option (Int32 × St) :=
  if x3 = 0 then (
    k2 σ x1 (x2 + 1)
  ) else (
    some (x2, σ)
  )
def f_G_groupOfKeys_37_b (N : Nat) (k2 : St → Int32 → Int32 → Option (Int32 × St)) (k37 : St → Int32 → Int32 → Int32 → Int32 → Option (Int32 × St)) (σ : St) (x1 : Int32) (x2 : Int32) (x3 : Int32) (x4 : Int32) : Option (Int32 × St) :=
  if x3 = 0 then (
    f_G_groupOfKeys_88 N k2 σ x1 x2 x3
  ) else (
    if x1 ≤ x4 then (
      f_G_groupOfKeys_88 N k2 σ x1 x2 x3
    ) else (
      ckb ((x2 * (4 : Int32)) + x4) 2048 <|
      ckb (((gi σ 18) * (4 : Int32)) + x4) 2048 <|
      if (lg_cmp (gb σ 3 (((x2 * (4 : Int32)) + x4)).toNatClampNeg) (gb σ 3 ((((gi σ 18) * (4 : Int32)) + x4)).toNatClampNeg)) = 0 then (
        k37 σ x1 x2 (1 : Int32) (x4 + 1)
      ) else (
        k37 σ x1 x2 (0 : Int32) (x4 + 1)
      )
    )
  )
def f_G_groupOfKeys_37 (N : Nat) (k2 : St → Int32 → Int32 → Option (Int32 × St)) : Nat → St → Int32 → Int32 → Int32 → Int32 → Option (Int32 × St)
  | 0 => fun _ _ _ _ _ => none
  | n + 1 => f_G_groupOfKeys_37_b N k2 (f_G_groupOfKeys_37 N k2 n)
def f_G_groupOfKeys_2_b (N : Nat) (k2 : St → Int32 → Int32 → Option (Int32 × St)) (σ : St) (x1 : Int32) (x2 : Int32) : Option (Int32 × St) :=
  if (gi σ 18) ≤ x2 then (
    some ((gi σ 18), σ)
  ) else (
    ckb x2 512 <|
    ckb (gi σ 18) 512 <|
    if (ga σ 24 (x2).toNatClampNeg) = (ga σ 24 ((gi σ 18)).toNatClampNeg) then (
      f_G_groupOfKeys_37 N k2 N σ x1 x2 (1 : Int32) (0 : Int32)
    ) else (
      f_G_groupOfKeys_37 N k2 N σ x1 x2 (0 : Int32) (0 : Int32)
    )
  )
def f_G_groupOfKeys_2 (N : Nat) : Nat → St → Int32 → Int32 → Option (Int32 × St)
  | 0 => fun _ _ _ => none
  | n + 1 => f_G_groupOfKeys_2_b N (f_G_groupOfKeys_2 N n)
def f_G_groupOfKeys (N : Nat) (σ : St) (x1 : Int32) : Option (Int32 × St) :=
  f_G_groupOfKeys_2 N N σ x1 (0 : Int32)
def f_G_placeRow_65 (N : Nat) (σ : St) (x2 : Int32) : Option (Unit × St) :=
  ckb x2 512 <|
  nm (wa σ 26 x2 (gi σ 19)) fun s1 =>
  ckb (gi s1 19) 512 <|
  nm (wa s1 27 (gi s1 19) (-1 : Int32)) fun s2 =>
  nm (si s2 20 x2) fun s3 =>
  some ((), s3)
def f_G_placeRow_27 (N : Nat) (σ : St) (x2 : Int32) : Option (Unit × St) :=
  ckb x2 512 <|
  if (ga σ 25 (x2).toNatClampNeg) = (-1 : Int32) then (
    ckb x2 512 <|
    nm (wa σ 25 x2 (gi σ 19)) fun s5 =>
    f_G_placeRow_65 N s5 x2
  ) else (
    ckb x2 512 <|
    ckb (ga σ 26 (x2).toNatClampNeg) 512 <|
    nm (wa σ 27 (ga σ 26 (x2).toNatClampNeg) (gi σ 19)) fun s4 =>
    f_G_placeRow_65 N s4 x2
  )
def f_G_placeRow_13 (N : Nat) (σ : St) (t0 : Int32) : Option (Unit × St) :=
  if t0 = (gi σ 18) then (
    bd (f_G_openGroup N σ t0) fun _ s7 =>
    f_G_placeRow_27 N s7 t0
  ) else (
    f_G_placeRow_27 N σ t0
  )
def f_G_placeRow (N : Nat) (σ : St) (x1 : Int32) : Option (Unit × St) :=
  if x1 = 0 then (
    f_G_placeRow_13 N σ (0 : Int32)
  ) else (
    bd (f_G_groupOfKeys N σ x1) fun r8 s9 =>
    f_G_placeRow_13 N s9 r8
  )
def f_G_endRow (N : Nat) (σ : St) : Option (Unit × St) :=
  nm (si σ 19 ((gi σ 19) + (1 : Int32))) fun s1 =>
  some ((), s1)
def f_G_combine (N : Nat) (σ : St) (x0 : Int32) (x1 : Int64) (x3 : Int64) : Option (Int64 × St) :=
  if x0 = 2 then (
    some ((x1 + x3), σ)
  ) else (
  if x0 = 3 then (
    some ((if x3 < x1 then x3 else x1), σ)
  ) else (
  if x0 = 4 then (
    some ((if x3 < x1 then x1 else x3), σ)
  ) else (
  if x0 = 5 then (
    some ((x1 + x3), σ)
  ) else (
    some (x1, σ)
  )
  )
  )
  )
def f_G_wasCounted_62 (N : Nat) (k14 : St → Int32 → Int64 → Int32 → Int32 → Option (Int32 × St)) (σ : St) (x1 : Int32) (x2 : Int64) (x4 : Int32) (x5 : Int32) : Option (Int32 × St) :=
  ckb x4 512 <|
  k14 σ x1 x2 (ga σ 27 (x4).toNatClampNeg) (x5 + 1)
def f_G_wasCounted_14_b (N : Nat) (k14 : St → Int32 → Int64 → Int32 → Int32 → Option (Int32 × St)) (σ : St) (x1 : Int32) (x2 : Int64) (x4 : Int32) (x5 : Int32) : Option (Int32 × St) :=
  if (gi σ 19) ≤ x5 then (
    some ((0 : Int32), σ)
  ) else (
    if x4 = (-1 : Int32) then (
      some ((0 : Int32), σ)
    ) else (
      ckb x4 512 <|
      if (((ga σ 29 (x4).toNatClampNeg) >>> (x1 &&& 31)) &&& (1 : Int32)) = 0 then (
        f_G_wasCounted_62 N k14 σ x1 x2 x4 x5
      ) else (
        ckb ((x4 * (8 : Int32)) + x1) 4096 <|
        if (lg_cmp (gb σ 4 (((x4 * (8 : Int32)) + x1)).toNatClampNeg) x2) = 0 then (
          some ((1 : Int32), σ)
        ) else (
          f_G_wasCounted_62 N k14 σ x1 x2 x4 x5
        )
      )
    )
  )
def f_G_wasCounted_14 (N : Nat) : Nat → St → Int32 → Int64 → Int32 → Int32 → Option (Int32 × St)
  | 0 => fun _ _ _ _ _ => none
  | n + 1 => f_G_wasCounted_14_b N (f_G_wasCounted_14 N n)
def f_G_wasCounted (N : Nat) (σ : St) (x1 : Int32) (x2 : Int64) : Option (Int32 × St) :=
  ckb (gi σ 20) 512 <|
  f_G_wasCounted_14 N N σ x1 x2 (ga σ 25 ((gi σ 20)).toNatClampNeg) (0 : Int32)
def f_G_takeNumber_102 (N : Nat) (σ : St) (x5 : Int32) (t0 : Int64) : Option (Int32 × St) :=
  if (lg_cmp t0 (-1000000000000000 : Int64)) < 0 then (
    some ((-21 : Int32), σ)
  ) else (
    if (lg_cmp t0 (1000000000000000 : Int64)) ≤ 0 then (
      ckb x5 4096 <|
      ckb x5 4096 <|
      nm (wa σ 30 x5 ((ga σ 30 (x5).toNatClampNeg) + (1 : Int32))) fun s3 =>
      ckb x5 4096 <|
      nm (wl s3 5 x5 t0) fun s4 =>
      some ((0 : Int32), s4)
    ) else (
      some ((-21 : Int32), σ)
    )
  )
def f_G_takeNumber_27 (N : Nat) (σ : St) (x1 : Int32) (x3 : Int64) : Option (Int32 × St) :=
  ckb (((gi σ 19) * (8 : Int32)) + x1) 4096 <|
  nm (wl σ 4 (((gi σ 19) * (8 : Int32)) + x1) x3) fun s1 =>
  ckb (gi s1 19) 512 <|
  ckb (gi s1 19) 512 <|
  nm (wa s1 29 (gi s1 19) ((ga s1 29 ((gi s1 19)).toNatClampNeg) ||| ((1 : Int32) <<< (x1 &&& 31)))) fun s2 =>
  ckb (((gi s2 20) * (8 : Int32)) + x1) 4096 <|
  if (ga s2 30 ((((gi s2 20) * (8 : Int32)) + x1)).toNatClampNeg) = 0 then (
    f_G_takeNumber_102 N s2 (((gi s2 20) * (8 : Int32)) + x1) x3
  ) else (
    ckb x1 8 <|
    ckb (((gi s2 20) * (8 : Int32)) + x1) 4096 <|
    bd (f_G_combine N s2 (ga s2 10 (x1).toNatClampNeg) (gb s2 5 ((((gi s2 20) * (8 : Int32)) + x1)).toNatClampNeg) x3) fun r5 s6 =>
    f_G_takeNumber_102 N s6 (((gi s2 20) * (8 : Int32)) + x1) r5
  )
def f_G_takeNumber (N : Nat) (σ : St) (x1 : Int32) (x2 : Int32) (x3 : Int64) : Option (Int32 × St) :=
  if x2 = 0 then (
    some ((0 : Int32), σ)
  ) else (
    ckb x1 8 <|
    if (ga σ 12 (x1).toNatClampNeg) = 0 then (
      f_G_takeNumber_27 N σ x1 x3
    ) else (
      bd (f_G_wasCounted N σ x1 x3) fun r7 s8 =>
      if r7 = 0 then (
        f_G_takeNumber_27 N s8 x1 x3
      ) else (
        some ((0 : Int32), s8)
      )
    )
  )
def f_R_aggregateRow (N : Nat) (σ : St) (x2 : Int32) : Option (Int32 × St) :=
  ckb x2 8 <|
  if (ga σ 10 (x2).toNatClampNeg) = 0 then (
    bd (f_G_takeNumber N σ x2 (1 : Int32) (0 : Int64)) fun r5 s6 =>
    some (r5, s6)
  ) else (
    ckb x2 8 <|
    bd (f_ev N true 130 0 σ (ga σ 11 (x2).toNatClampNeg) (0 : Int32)) fun r1 s2 =>
    if 0 ≤ r1 then (
      bd (f_G_takeNumber N s2 x2 r1 (gl s2 0)) fun r3 s4 =>
      some (r3, s4)
    ) else (
      some (r1, s2)
    )
  )
def f_G_setKey (N : Nat) (σ : St) (x1 : Int32) (x2 : Int32) (x3 : Int64) : Option (Unit × St) :=
  ckb (((gi σ 18) * (4 : Int32)) + x1) 2048 <|
  nm (wl σ 3 (((gi σ 18) * (4 : Int32)) + x1) x3) fun s1 =>
  if x2 = 0 then (
    ckb (gi s1 18) 512 <|
    ckb (gi s1 18) 512 <|
    nm (wa s1 24 (gi s1 18) ((ga s1 24 ((gi s1 18)).toNatClampNeg) ||| ((1 : Int32) <<< (x1 &&& 31)))) fun s2 =>
    some ((), s2)
  ) else (
    some ((), s1)
  )
def f_R_groupRow_133 (N : Nat) (g : Bool) (k101 : St → Int32 → Option (Int32 × St)) (σ : St) (x2 : Int32) (t0 : Int32) : Option (Int32 × St) :=
  if t0 = 0 then (
    k101 σ (x2 + 1)
  ) else (
    some (t0, σ)
  )
def f_R_groupRow_101_b (N : Nat) (g : Bool) (k101 : St → Int32 → Option (Int32 × St)) (σ : St) (x2 : Int32) : Option (Int32 × St) :=
  if (gi σ 2) ≤ x2 then (
    bd (f_G_endRow N σ) fun _ s8 =>
    some ((0 : Int32), s8)
  ) else (
    if (((gi σ 17) >>> (x2 &&& 31)) &&& (1 : Int32)) = 0 then (
      f_R_groupRow_133 N g k101 σ x2 (0 : Int32)
    ) else (
      bd (f_R_aggregateRow N σ x2) fun r9 s10 =>
      f_R_groupRow_133 N g k101 s10 x2 r9
    )
  )
def f_R_groupRow_101 (N : Nat) (g : Bool) : Nat → St → Int32 → Option (Int32 × St)
  | 0 => fun _ _ => none
  | n + 1 => f_R_groupRow_101_b N g (f_R_groupRow_101 N g n)
def f_R_groupRow_34_b (N : Nat) (g : Bool) (k34 : St → Int32 → Option (Int32 × St)) (σ : St) (x2 : Int32) : Option (Int32 × St) :=
  if (gi σ 6) ≤ x2 then (
    bd (f_G_placeRow N σ (gi σ 6)) fun _ s6 =>
    f_R_groupRow_101 N g N s6 (0 : Int32)
  ) else (
    ckb x2 4 <|
    bd (f_ev N g 130 0 σ (ga σ 16 (x2).toNatClampNeg) (0 : Int32)) fun r11 s12 =>
    if 0 ≤ r11 then (
      bd (f_G_setKey N s12 x2 r11 (gl s12 0)) fun _ s14 =>
      k34 s14 (x2 + 1)
    ) else (
      some (r11, s12)
    )
  )
def f_R_groupRow_34 (N : Nat) (g : Bool) : Nat → St → Int32 → Option (Int32 × St)
  | 0 => fun _ _ => none
  | n + 1 => f_R_groupRow_34_b N g (f_R_groupRow_34 N g n)
def f_R_groupRow (N : Nat) (g : Bool) (σ : St) : Option (Int32 × St) :=
  if g = true then (
    bd (f_G_isFull N σ) fun r1 s2 =>
    if r1 = 0 then (
      bd (f_G_startRow N s2) fun _ s4 =>
      f_R_groupRow_34 N g N s4 (0 : Int32)
    ) else (
      some ((0 : Int32), s2)
    )
  ) else (
    some ((0 : Int32), σ)
  )
def f_R_takeRow_30 (N : Nat) (g : Bool) (σ : St) (t0 : Int32) : Option (Int32 × St) :=
  if 0 ≤ t0 then (
    if t0 = (1 : Int32) then (
      if (gi σ 16) = 0 then (
        bd (f_R_giveRow N g σ) fun r1 s2 =>
        some (r1, s2)
      ) else (
        bd (f_R_groupRow N g σ) fun r3 s4 =>
        some (r3, s4)
      )
    ) else (
      some ((0 : Int32), σ)
    )
  ) else (
    some (t0, σ)
  )
def f_R_takeRow (N : Nat) (g : Bool) (σ : St) : Option (Int32 × St) :=
  if (gi σ 4) = (-1 : Int32) then (
    f_R_takeRow_30 N g σ (1 : Int32)
  ) else (
    bd (f_ev N g 130 1 σ (gi σ 4) (0 : Int32)) fun r5 s6 =>
    f_R_takeRow_30 N g s6 r5
  )
def f_R_joinFrom_89 (N : Nat) (g : Bool) (rc : St → Int32 → Option (Int32 × St)) (k39 : St → Int32 → Int32 → Int32 → Int32 → Option (Int32 × St)) (σ : St) (x1 : Int32) (x2 : Int32) (x3 : Int32) (x4 : Int32) (t0 : Int32) : Option (Int32 × St) :=
  if 0 ≤ t0 then (
    if t0 = (1 : Int32) then (
      bd (rc σ (x1 + (1 : Int32))) fun r5 s6 =>
      if r5 = 0 then (
        k39 s6 x1 x2 (1 : Int32) (x4 + 1)
      ) else (
        some (r5, s6)
      )
    ) else (
      k39 σ x1 x2 x3 (x4 + 1)
    )
  ) else (
    some (t0, σ)
  )
def f_R_joinFrom_39_b (N : Nat) (g : Bool) (rc : St → Int32 → Option (Int32 × St)) (k39 : St → Int32 → Int32 → Int32 → Int32 → Option (Int32 × St)) (σ : St) (x1 : Int32) (x2 : Int32) (x3 : Int32) (x4 : Int32) : Option (Int32 × St) :=
  if x2 ≤ x4 then (
    if x3 = 0 then (
      ckb x1 3 <|
      if (ga σ 14 (x1).toNatClampNeg) = (2 : Int32) then (
        ckb x1 3 <|
        nm (wa σ 23 x1 (-1 : Int32)) fun s1 =>
        bd (rc s1 (x1 + (1 : Int32))) fun r2 s3 =>
        some (r2, s3)
      ) else (
        some ((0 : Int32), σ)
      )
    ) else (
      some ((0 : Int32), σ)
    )
  ) else (
    ckb x1 3 <|
    nm (wa σ 23 x1 x4) fun s4 =>
    ckb x1 3 <|
    if (ga s4 14 (x1).toNatClampNeg) = 0 then (
      f_R_joinFrom_89 N g rc k39 s4 x1 x2 x3 x4 (1 : Int32)
    ) else (
      ckb x1 3 <|
      bd (f_ev N g 130 1 s4 (ga s4 15 (x1).toNatClampNeg) (0 : Int32)) fun r7 s8 =>
      f_R_joinFrom_89 N g rc k39 s8 x1 x2 x3 x4 r7
    )
  )
def f_R_joinFrom_39 (N : Nat) (g : Bool) (rc : St → Int32 → Option (Int32 × St)) : Nat → St → Int32 → Int32 → Int32 → Int32 → Option (Int32 × St)
  | 0 => fun _ _ _ _ _ => none
  | n + 1 => f_R_joinFrom_39_b N g rc (f_R_joinFrom_39 N g rc n)
def f_R_joinFrom_b (N : Nat) (g : Bool) (rc : St → Int32 → Option (Int32 × St)) (σ : St) (x1 : Int32) : Option (Int32 × St) :=
  if x1 < (gi σ 3) then (
    ckb x1 3 <|
    ckb (ga σ 13 (x1).toNatClampNeg) 6 <|
    f_R_joinFrom_39 N g rc N σ x1 (ga σ 1 ((ga σ 13 (x1).toNatClampNeg)).toNatClampNeg) (0 : Int32) (0 : Int32)
  ) else (
    bd (f_R_takeRow N g σ) fun r9 s10 =>
    some (r9, s10)
  )
def f_jf (N : Nat) (g : Bool) : Nat → St → Int32 → Option (Int32 × St)
  | 0 => fun _ _ => none
  | n + 1 => fun σ x1 => f_R_joinFrom_b N g (f_jf N g n) σ x1
def f_Q_run_40 (N : Nat) (g : Bool) (σ : St) (x1 : Int32) : Option (Int32 × Bool × St) :=
  if x1 = 0 then (
    bd (f_A_finish N σ) fun _ s8 =>
    some ((gi s8 13), g, s8)
  ) else (
    some (x1, g, σ)
  )
def f_Q_run_28 (N : Nat) (g : Bool) (σ : St) (x1 : Int32) : Option (Int32 × Bool × St) :=
  if x1 = 0 then (
    bd (f_R_giveGroups N g σ) fun r9 s10 =>
    f_Q_run_40 N g s10 r9
  ) else (
    f_Q_run_40 N g σ x1
  )
def f_Q_run (N : Nat) (g : Bool) (σ : St) : Option (Int32 × Bool × St) :=
  bd (f_A_clear N σ) fun _ s2 =>
  bg (f_R_prepare N g s2) fun r3 g5 s4 =>
  if r3 = 0 then (
    bd (f_jf N g5 6 s4 (0 : Int32)) fun r11 s12 =>
    f_Q_run_28 N g5 s12 r11
  ) else (
    f_Q_run_28 N g5 s4 r3
  )
def f_A_has (N : Nat) (σ : St) (x1 : Int32) (x2 : Int32) : Option (Int32 × St) :=
  if x1 < 0 then (
    some ((0 : Int32), σ)
  ) else (
    if (gi σ 13) ≤ x1 then (
      some ((0 : Int32), σ)
    ) else (
      if x2 < 0 then (
        some ((0 : Int32), σ)
      ) else (
        if (gi σ 12) ≤ x2 then (
          some ((0 : Int32), σ)
        ) else (
          some ((1 : Int32), σ)
        )
      )
    )
  )
def f_A_numberOf (N : Nat) (σ : St) (x1 : Int32) (x2 : Int32) : Option (Int64 × St) :=
  ckb ((gi σ 15) + x1) 200 <|
  ckb (((ga σ 21 (((gi σ 15) + x1)).toNatClampNeg) * (6 : Int32)) + x2) 1200 <|
  some ((gb σ 2 ((((ga σ 21 (((gi σ 15) + x1)).toNatClampNeg) * (6 : Int32)) + x2)).toNatClampNeg), σ)
def f_Q_cell (N : Nat) (σ : St) (x1 : Int32) (x2 : Int32) : Option (Int64 × St) :=
  bd (f_A_has N σ x1 x2) fun r1 s2 =>
  if r1 = 0 then (
    some ((0 : Int64), s2)
  ) else (
    bd (f_A_numberOf N s2 x1 x2) fun r3 s4 =>
    some (r3, s4)
  )
def f_A_lacks (N : Nat) (σ : St) (x1 : Int32) (x2 : Int32) : Option (Int32 × St) :=
  ckb ((gi σ 15) + x1) 200 <|
  bd (f_A_isNullAt N σ (ga σ 21 (((gi σ 15) + x1)).toNatClampNeg) x2) fun r1 s2 =>
  ckt r1 <|
  some (r1, s2)
def f_Q_isNull (N : Nat) (σ : St) (x1 : Int32) (x2 : Int32) : Option (Int32 × St) :=
  bd (f_A_has N σ x1 x2) fun r1 s2 =>
  if r1 = 0 then (
    some ((0 : Int32), s2)
  ) else (
    bd (f_A_lacks N s2 x1 x2) fun r3 s4 =>
    if r3 = 0 then (
      some ((0 : Int32), s4)
    ) else (
      some ((1 : Int32), s4)
    )
  )
def f_Q_answer (N : Nat) (σ : St) (x1 : Int32) : Option (Int32 × St) :=
  if x1 = 0 then (
    some ((gi σ 13), σ)
  ) else (
    if x1 = (1 : Int32) then (
      some ((gi σ 12), σ)
    ) else (
      some ((-1 : Int32), σ)
    )
  )
