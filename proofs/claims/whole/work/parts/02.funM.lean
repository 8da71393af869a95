def f_M_within (N : Nat) (σ : St) (x0 : Int64) (x2 : Int64) (x4 : Int64) : Option (Int32 × St) :=
  if (lg_cmp x0 x2) < 0 then (
    some ((0 : Int32), σ)
  ) else (
    if 0 < (lg_cmp x0 x4) then (
      some ((0 : Int32), σ)
    ) else (
      some ((1 : Int32), σ)
    )
  )
def f_M_table (N : Nat) (σ : St) (x1 : Int32) : Option (Int32 × St) :=
  bd (f_M_within N σ (x1).toInt64 (1 : Int64) (4 : Int64)) fun r1 s2 =>
  if r1 = 0 then (
    some ((-102 : Int32), s2)
  ) else (
    if (gi s2 0) = (6 : Int32) then (
      some ((-104 : Int32), s2)
    ) else (
      ckb (gi s2 0) 6 <|
      nm (wa s2 0 (gi s2 0) x1) fun s3 =>
      ckb (gi s3 0) 6 <|
      nm (wa s3 1 (gi s3 0) (0 : Int32)) fun s4 =>
      nm (si s4 0 ((gi s4 0) + (1 : Int32))) fun s5 =>
      some (((gi s5 0) - (1 : Int32)), s5)
    )
  )
def f_M_insert_190 (N : Nat) (k139 : St → Int32 → Int64 → Int64 → Int64 → Int64 → Int32 → Int32 → Option (Int32 × St)) (σ : St) (x1 : Int32) (x2 : Int64) (x4 : Int64) (x6 : Int64) (x8 : Int64) (x10 : Int32) (x12 : Int32) (x13 : Int32) (t0 : Int32) (t1 : Int32) : Option (Int32 × St) :=
  ckb t1 192 <|
  nm (wz σ 2 t1 t0) fun s4 =>
  if x12 = 0 then (
    ckb x13 192 <|
    nm (wl s4 0 x13 x2) fun s8 =>
    k139 s8 x1 x2 x4 x6 x8 x10 (x12 + 1)
  ) else (
    if x12 = (1 : Int32) then (
      ckb x13 192 <|
      nm (wl s4 0 x13 x4) fun s7 =>
      k139 s7 x1 x2 x4 x6 x8 x10 (x12 + 1)
    ) else (
      if x12 = (2 : Int32) then (
        ckb x13 192 <|
        nm (wl s4 0 x13 x6) fun s6 =>
        k139 s6 x1 x2 x4 x6 x8 x10 (x12 + 1)
      ) else (
        ckb x13 192 <|
        nm (wl s4 0 x13 x8) fun s5 =>
        k139 s5 x1 x2 x4 x6 x8 x10 (x12 + 1)
      )
    )
  )
def f_M_insert_139_b (N : Nat) (k139 : St → Int32 → Int64 → Int64 → Int64 → Int64 → Int32 → Int32 → Option (Int32 × St)) (σ : St) (x1 : Int32) (x2 : Int64) (x4 : Int64) (x6 : Int64) (x8 : Int64) (x10 : Int32) (x12 : Int32) : Option (Int32 × St) :=
  ckb x1 6 <|
  if (ga σ 0 (x1).toNatClampNeg) ≤ x12 then (
    ckb x1 6 <|
    ckb x1 6 <|
    nm (wa σ 1 x1 ((ga σ 1 (x1).toNatClampNeg) + (1 : Int32))) fun s3 =>
    ckb x1 6 <|
    some ((ga s3 1 (x1).toNatClampNeg), s3)
  ) else (
    ckb x1 6 <|
    if ((x10 >>> (x12 &&& 31)) &&& (1 : Int32)) = (1 : Int32) then (
      f_M_insert_190 N k139 σ x1 x2 x4 x6 x8 x10 x12 ((((32 : Int32) * x1) + ((4 : Int32) * (ga σ 1 (x1).toNatClampNeg))) + x12) (1 : Int32) ((((32 : Int32) * x1) + ((4 : Int32) * (ga σ 1 (x1).toNatClampNeg))) + x12)
    ) else (
      f_M_insert_190 N k139 σ x1 x2 x4 x6 x8 x10 x12 ((((32 : Int32) * x1) + ((4 : Int32) * (ga σ 1 (x1).toNatClampNeg))) + x12) (0 : Int32) ((((32 : Int32) * x1) + ((4 : Int32) * (ga σ 1 (x1).toNatClampNeg))) + x12)
    )
  )
def f_M_insert_139 (N : Nat) : Nat → St → Int32 → Int64 → Int64 → Int64 → Int64 → Int32 → Int32 → Option (Int32 × St)
  | 0 => fun _ _ _ _ _ _ _ _ => none
  | n + 1 => f_M_insert_139_b N (f_M_insert_139 N n)
def f_M_insert_69 (N : Nat) (k25 : St → Int32 → Int64 → Int64 → Int64 → Int64 → Int32 → Int32 → Int32 → Option (Int32 × St)) (σ : St) (x1 : Int32) (x2 : Int64) (x4 : Int64) (x6 : Int64) (x8 : Int64) (x10 : Int32) (x11 : Int32) (x12 : Int32) (t0 : Int64) : Option (Int32 × St) :=
  if x11 = 0 then (
    k25 σ x1 x2 x4 x6 x8 x10 (0 : Int32) (x12 + 1)
  ) else (
    if ((x10 >>> (x12 &&& 31)) &&& (1 : Int32)) = (1 : Int32) then (
      k25 σ x1 x2 x4 x6 x8 x10 (1 : Int32) (x12 + 1)
    ) else (
      bd (f_M_within N σ t0 (-1000000000000 : Int64) (1000000000000 : Int64)) fun r9 s10 =>
      if r9 = 0 then (
        k25 s10 x1 x2 x4 x6 x8 x10 (0 : Int32) (x12 + 1)
      ) else (
        k25 s10 x1 x2 x4 x6 x8 x10 (1 : Int32) (x12 + 1)
      )
    )
  )
def f_M_insert_25_b (N : Nat) (k25 : St → Int32 → Int64 → Int64 → Int64 → Int64 → Int32 → Int32 → Int32 → Option (Int32 × St)) (σ : St) (x1 : Int32) (x2 : Int64) (x4 : Int64) (x6 : Int64) (x8 : Int64) (x10 : Int32) (x11 : Int32) (x12 : Int32) : Option (Int32 × St) :=
  ckb x1 6 <|
  if (ga σ 0 (x1).toNatClampNeg) ≤ x12 then (
    if x11 = 0 then (
      some ((-102 : Int32), σ)
    ) else (
      ckb x1 6 <|
      if (ga σ 1 (x1).toNatClampNeg) = (8 : Int32) then (
        some ((-104 : Int32), σ)
      ) else (
        f_M_insert_139 N N σ x1 x2 x4 x6 x8 x10 (0 : Int32)
      )
    )
  ) else (
    if x12 = 0 then (
      f_M_insert_69 N k25 σ x1 x2 x4 x6 x8 x10 x11 x12 x2
    ) else (
      if x12 = (1 : Int32) then (
        f_M_insert_69 N k25 σ x1 x2 x4 x6 x8 x10 x11 x12 x4
      ) else (
        if x12 = (2 : Int32) then (
          f_M_insert_69 N k25 σ x1 x2 x4 x6 x8 x10 x11 x12 x6
        ) else (
          f_M_insert_69 N k25 σ x1 x2 x4 x6 x8 x10 x11 x12 x8
        )
      )
    )
  )
def f_M_insert_25 (N : Nat) : Nat → St → Int32 → Int64 → Int64 → Int64 → Int64 → Int32 → Int32 → Int32 → Option (Int32 × St)
  | 0 => fun _ _ _ _ _ _ _ _ _ => none
  | n + 1 => f_M_insert_25_b N (f_M_insert_25 N n)
def f_M_insert (N : Nat) (σ : St) (x1 : Int32) (x2 : Int64) (x4 : Int64) (x6 : Int64) (x8 : Int64) (x10 : Int32) : Option (Int32 × St) :=
  bd (f_M_within N σ (x1).toInt64 (0 : Int64) (((gi σ 0) - (1 : Int32))).toInt64) fun r1 s2 =>
  if r1 = 0 then (
    some ((-101 : Int32), s2)
  ) else (
    f_M_insert_25 N N s2 x1 x2 x4 x6 x8 x10 (1 : Int32) (0 : Int32)
  )
def f_M_fresh (N : Nat) (σ : St) : Option (Int32 × St) :=
  nm (si σ 1 (0 : Int32)) fun s1 =>
  nm (si s1 2 (0 : Int32)) fun s2 =>
  nm (si s2 3 (0 : Int32)) fun s3 =>
  nm (si s3 4 (-1 : Int32)) fun s4 =>
  nm (si s4 5 (-1 : Int32)) fun s5 =>
  nm (si s5 6 (0 : Int32)) fun s6 =>
  nm (si s6 7 (0 : Int32)) fun s7 =>
  nm (si s7 8 (0 : Int32)) fun s8 =>
  nm (si s8 9 (0 : Int32)) fun s9 =>
  nm (si s9 10 (1000 : Int32)) fun s10 =>
  nm (si s10 11 (0 : Int32)) fun s11 =>
  some ((gi σ 1), s11)
def f_M_isTwo (N : Nat) (σ : St) (x1 : Int32) : Option (Int32 × St) :=
  if (11 : Int32) ≤ x1 then (
    some ((0 : Int32), σ)
  ) else (
    some ((1 : Int32), σ)
  )
def f_M_isLike (N : Nat) (σ : St) (x1 : Int32) (x2 : Int32) : Option (Int32 × St) :=
  ckb x1 60 <|
  ckb x2 60 <|
  if (ga σ 3 (x1).toNatClampNeg) = (ga σ 3 (x2).toNatClampNeg) then (
    ckb x1 60 <|
    ckb x2 60 <|
    if (ga σ 6 (x1).toNatClampNeg) = (ga σ 6 (x2).toNatClampNeg) then (
      ckb x1 60 <|
      if (ga σ 3 (x1).toNatClampNeg) = (20 : Int32) then (
        ckb x1 60 <|
        if (ga σ 6 (x1).toNatClampNeg) = 0 then (
          ckb x1 60 <|
          ckb x2 60 <|
          if (lg_cmp (gb σ 1 (x1).toNatClampNeg) (gb σ 1 (x2).toNatClampNeg)) = 0 then (
            some ((1 : Int32), σ)
          ) else (
            some ((0 : Int32), σ)
          )
        ) else (
          some ((1 : Int32), σ)
        )
      ) else (
        ckb x1 60 <|
        if (ga σ 3 (x1).toNatClampNeg) = (21 : Int32) then (
          ckb x1 60 <|
          ckb x2 60 <|
          if (ga σ 4 (x1).toNatClampNeg) = (ga σ 4 (x2).toNatClampNeg) then (
            ckb x1 60 <|
            ckb x2 60 <|
            if (ga σ 5 (x1).toNatClampNeg) = (ga σ 5 (x2).toNatClampNeg) then (
              some ((1 : Int32), σ)
            ) else (
              some ((0 : Int32), σ)
            )
          ) else (
            some ((0 : Int32), σ)
          )
        ) else (
          ckb x1 60 <|
          ckb (ga σ 4 (x1).toNatClampNeg) 60 <|
          ckb x2 60 <|
          ckb (ga σ 4 (x2).toNatClampNeg) 60 <|
          if (ga σ 9 ((ga σ 4 (x1).toNatClampNeg)).toNatClampNeg) = (ga σ 9 ((ga σ 4 (x2).toNatClampNeg)).toNatClampNeg) then (
            ckb x1 60 <|
            bd (f_M_isTwo N σ (ga σ 3 (x1).toNatClampNeg)) fun r1 s2 =>
            if r1 = 0 then (
              some ((1 : Int32), s2)
            ) else (
              ckb x1 60 <|
              ckb (ga s2 5 (x1).toNatClampNeg) 60 <|
              ckb x2 60 <|
              ckb (ga s2 5 (x2).toNatClampNeg) 60 <|
              if (ga s2 9 ((ga s2 5 (x1).toNatClampNeg)).toNatClampNeg) = (ga s2 9 ((ga s2 5 (x2).toNatClampNeg)).toNatClampNeg) then (
                some ((1 : Int32), s2)
              ) else (
                some ((0 : Int32), s2)
              )
            )
          ) else (
            some ((0 : Int32), σ)
          )
        )
      )
    ) else (
      some ((0 : Int32), σ)
    )
  ) else (
    some ((0 : Int32), σ)
  )
def f_M_make_174_b (N : Nat) (k174 : St → Int32 → Int32 → Option (Int32 × St)) (σ : St) (x7 : Int32) (x9 : Int32) : Option (Int32 × St) :=
  if x9 < 0 then (
    nm (si σ 1 ((gi σ 1) + (1 : Int32))) fun s11 =>
    some (x7, s11)
  ) else (
    bd (f_M_isLike N σ x9 x7) fun r12 s13 =>
    if r12 = 0 then (
      ckb x7 60 <|
      ckb x7 60 <|
      nm (wa s13 9 x7 (ga s13 9 (x7).toNatClampNeg)) fun s14 =>
      k174 s14 x7 (x9 + Int32.ofInt (-1))
    ) else (
      ckb x7 60 <|
      nm (wa s13 9 x7 x9) fun s15 =>
      k174 s15 x7 (x9 + Int32.ofInt (-1))
    )
  )
def f_M_make_174 (N : Nat) : Nat → St → Int32 → Int32 → Option (Int32 × St)
  | 0 => fun _ _ _ => none
  | n + 1 => f_M_make_174_b N (f_M_make_174 N n)
def f_M_make_158 (N : Nat) (σ : St) (x7 : Int32) (t0 : Int32) (t1 : Int32) : Option (Int32 × St) :=
  ckb t1 60 <|
  nm (wz σ 8 t1 t0) fun s9 =>
  ckb x7 60 <|
  nm (wa s9 9 x7 x7) fun s10 =>
  f_M_make_174 N N s10 x7 (x7 - (1 : Int32))
def f_M_make_153 (N : Nat) (σ : St) (x7 : Int32) (t0 : Int32) : Option (Int32 × St) :=
  f_M_make_158 N σ x7 (1 : Int32) t0
def f_M_make_157 (N : Nat) (σ : St) (x7 : Int32) (t0 : Int32) : Option (Int32 × St) :=
  f_M_make_158 N σ x7 (0 : Int32) t0
def f_M_make_136 (N : Nat) (σ : St) (x1 : Int32) (x3 : Int32) (x7 : Int32) (t0 : Int32) : Option (Int32 × St) :=
  bd (f_M_isTwo N σ x1) fun r16 s17 =>
  if r16 = 0 then (
    f_M_make_157 N s17 x7 t0
  ) else (
    ckb x3 60 <|
    if (ga s17 8 (x3).toNatClampNeg) = 0 then (
      f_M_make_157 N s17 x7 t0
    ) else (
      f_M_make_153 N s17 x7 t0
    )
  )
def f_M_make_108 (N : Nat) (σ : St) (x1 : Int32) (x2 : Int32) (x3 : Int32) (x7 : Int32) (x8 : Int32) (t0 : Int32) (t1 : Int32) (t2 : Int32) : Option (Int32 × St) :=
  ckb t2 60 <|
  nm (wa σ 7 t2 (t1 + t0)) fun s8 =>
  if (30 : Int32) ≤ x1 then (
    f_M_make_153 N s8 x7 x7
  ) else (
    if x8 = 0 then (
      f_M_make_136 N s8 x1 x3 x7 x7
    ) else (
      ckb x2 60 <|
      if (ga s8 8 (x2).toNatClampNeg) = 0 then (
        f_M_make_136 N s8 x1 x3 x7 x7
      ) else (
        f_M_make_153 N s8 x7 x7
      )
    )
  )
def f_M_make_89 (N : Nat) (σ : St) (x1 : Int32) (x2 : Int32) (x3 : Int32) (x7 : Int32) (x8 : Int32) (t0 : Int32) (t1 : Int32) (t2 : Int32) : Option (Int32 × St) :=
  bd (f_M_isTwo N σ x1) fun r6 s7 =>
  if r6 = 0 then (
    f_M_make_108 N s7 x1 x2 x3 x7 x8 (0 : Int32) (t1 + t0) t2
  ) else (
    ckb x3 60 <|
    f_M_make_108 N s7 x1 x2 x3 x7 x8 (ga s7 7 (x3).toNatClampNeg) (t1 + t0) t2
  )
def f_M_make_65 (N : Nat) (σ : St) (x1 : Int32) (x2 : Int32) (x3 : Int32) (x7 : Int32) (t0 : Int32) : Option (Int32 × St) :=
  if t0 = 0 then (
    f_M_make_89 N σ x1 x2 x3 x7 t0 (0 : Int32) (1 : Int32) x7
  ) else (
    ckb x2 60 <|
    f_M_make_89 N σ x1 x2 x3 x7 t0 (ga σ 7 (x2).toNatClampNeg) (1 : Int32) x7
  )
def f_M_make_60 (N : Nat) (σ : St) (x1 : Int32) (x2 : Int32) (x3 : Int32) (x7 : Int32) : Option (Int32 × St) :=
  f_M_make_65 N σ x1 x2 x3 x7 (1 : Int32)
def f_M_make (N : Nat) (σ : St) (x1 : Int32) (x2 : Int32) (x3 : Int32) (x4 : Int64) (x6 : Int32) : Option (Int32 × St) :=
  ckb (gi σ 1) 60 <|
  nm (wa σ 3 (gi σ 1) x1) fun s1 =>
  ckb (gi σ 1) 60 <|
  nm (wa s1 4 (gi σ 1) x2) fun s2 =>
  ckb (gi σ 1) 60 <|
  nm (wa s2 5 (gi σ 1) x3) fun s3 =>
  ckb (gi σ 1) 60 <|
  nm (wl s3 1 (gi σ 1) x4) fun s4 =>
  ckb (gi σ 1) 60 <|
  nm (wz s4 6 (gi σ 1) x6) fun s5 =>
  if x1 ≤ (12 : Int32) then (
    f_M_make_60 N s5 x1 x2 x3 (gi σ 1)
  ) else (
    if x1 < (30 : Int32) then (
      f_M_make_65 N s5 x1 x2 x3 (gi σ 1) (0 : Int32)
    ) else (
      f_M_make_60 N s5 x1 x2 x3 (gi σ 1)
    )
  )
def f_M_constant (N : Nat) (σ : St) (x1 : Int64) (x3 : Int32) : Option (Int32 × St) :=
  bd (f_M_within N σ x1 (-1000000000000 : Int64) (1000000000000 : Int64)) fun r1 s2 =>
  if r1 = 0 then (
    some ((-102 : Int32), s2)
  ) else (
    if (gi s2 1) = (60 : Int32) then (
      some ((-104 : Int32), s2)
    ) else (
      bd (f_M_make N s2 (20 : Int32) (0 : Int32) (0 : Int32) x1 x3) fun r3 s4 =>
      some (r3, s4)
    )
  )
def f_M_column (N : Nat) (σ : St) (x1 : Int32) (x2 : Int32) : Option (Int32 × St) :=
  bd (f_M_within N σ (x1).toInt64 (0 : Int64) (2 : Int64)) fun r1 s2 =>
  if r1 = 0 then (
    some ((-102 : Int32), s2)
  ) else (
    bd (f_M_within N s2 (x2).toInt64 (0 : Int64) (3 : Int64)) fun r3 s4 =>
    if r3 = 0 then (
      some ((-102 : Int32), s4)
    ) else (
      if (gi s4 1) = (60 : Int32) then (
        some ((-104 : Int32), s4)
      ) else (
        bd (f_M_make N s4 (21 : Int32) x1 x2 (0 : Int64) (0 : Int32)) fun r5 s6 =>
        some (r5, s6)
      )
    )
  )
def f_M_isExpression (N : Nat) (σ : St) (x1 : Int32) : Option (Int32 × St) :=
  if x1 < 0 then (
    some ((0 : Int32), σ)
  ) else (
    if (gi σ 1) ≤ x1 then (
      some ((0 : Int32), σ)
    ) else (
      some ((1 : Int32), σ)
    )
  )
def f_M_isOne (N : Nat) (σ : St) (x1 : Int32) : Option (Int32 × St) :=
  if x1 = (11 : Int32) then (
    some ((1 : Int32), σ)
  ) else (
    if x1 = (12 : Int32) then (
      some ((1 : Int32), σ)
    ) else (
      some ((0 : Int32), σ)
    )
  )
def f_M_isTruth (N : Nat) (σ : St) (x1 : Int32) : Option (Int32 × St) :=
  ckb x1 60 <|
  if (ga σ 3 (x1).toNatClampNeg) < (5 : Int32) then (
    some ((0 : Int32), σ)
  ) else (
    ckb x1 60 <|
    if (12 : Int32) < (ga σ 3 (x1).toNatClampNeg) then (
      some ((0 : Int32), σ)
    ) else (
      some ((1 : Int32), σ)
    )
  )
def f_M_op_152 (N : Nat) (σ : St) (t0 : Int32) (t1 : Int32) (t2 : Int32) : Option (Int32 × St) :=
  bd (f_M_make N σ t2 t1 t0 (0 : Int64) (0 : Int32)) fun r15 s16 =>
  some (r15, s16)
def f_M_op_127 (N : Nat) (σ : St) (x1 : Int32) (x2 : Int32) (x3 : Int32) (t0 : Int32) (t1 : Int32) : Option (Int32 × St) :=
  if (t1 + t0) ≤ (60 : Int32) then (
    bd (f_M_isTwo N σ x1) fun r13 s14 =>
    if r13 = 0 then (
      f_M_op_152 N s14 (0 : Int32) x2 x1
    ) else (
      f_M_op_152 N s14 x3 x2 x1
    )
  ) else (
    some ((-104 : Int32), σ)
  )
def f_M_op_92 (N : Nat) (σ : St) (x1 : Int32) (x2 : Int32) (x3 : Int32) : Option (Int32 × St) :=
  if (gi σ 1) = (60 : Int32) then (
    some ((-104 : Int32), σ)
  ) else (
    ckb x2 60 <|
    bd (f_M_isTwo N σ x1) fun r11 s12 =>
    if r11 = 0 then (
      f_M_op_127 N s12 x1 x2 x3 (0 : Int32) ((1 : Int32) + (ga σ 7 (x2).toNatClampNeg))
    ) else (
      ckb x3 60 <|
      f_M_op_127 N s12 x1 x2 x3 (ga s12 7 (x3).toNatClampNeg) ((1 : Int32) + (ga σ 7 (x2).toNatClampNeg))
    )
  )
def f_M_op_59 (N : Nat) (σ : St) (x1 : Int32) (x2 : Int32) (x3 : Int32) (t0 : Int32) : Option (Int32 × St) :=
  bd (f_M_isTruth N σ x2) fun r7 s8 =>
  if r7 = t0 then (
    bd (f_M_isTwo N s8 x1) fun r9 s10 =>
    if r9 = 0 then (
      f_M_op_92 N s10 x1 x2 x3
    ) else (
      bd (f_M_isTruth N s10 x3) fun r17 s18 =>
      if r17 = t0 then (
        f_M_op_92 N s18 x1 x2 x3
      ) else (
        some ((-103 : Int32), s18)
      )
    )
  ) else (
    some ((-103 : Int32), s8)
  )
def f_M_op_58 (N : Nat) (σ : St) (x1 : Int32) (x2 : Int32) (x3 : Int32) : Option (Int32 × St) :=
  f_M_op_59 N σ x1 x2 x3 (0 : Int32)
def f_M_op_27 (N : Nat) (σ : St) (x1 : Int32) (x2 : Int32) (x3 : Int32) : Option (Int32 × St) :=
  bd (f_M_within N σ (x1).toInt64 (0 : Int64) (12 : Int64)) fun r5 s6 =>
  if r5 = 0 then (
    some ((-102 : Int32), s6)
  ) else (
    if x1 < (9 : Int32) then (
      f_M_op_58 N s6 x1 x2 x3
    ) else (
      if (11 : Int32) < x1 then (
        f_M_op_58 N s6 x1 x2 x3
      ) else (
        f_M_op_59 N s6 x1 x2 x3 (1 : Int32)
      )
    )
  )
def f_M_op (N : Nat) (σ : St) (x1 : Int32) (x2 : Int32) (x3 : Int32) : Option (Int32 × St) :=
  bd (f_M_isExpression N σ x2) fun r1 s2 =>
  if r1 = 0 then (
    some ((-101 : Int32), s2)
  ) else (
    bd (f_M_isOne N s2 x1) fun r3 s4 =>
    if r3 = 0 then (
      bd (f_M_isExpression N s4 x3) fun r19 s20 =>
      if r19 = 0 then (
        some ((-101 : Int32), s20)
      ) else (
        f_M_op_27 N s20 x1 x2 x3
      )
    ) else (
      f_M_op_27 N s4 x1 x2 x3
    )
  )
def f_M_aggregate (N : Nat) (σ : St) (x1 : Int32) (x2 : Int32) (x3 : Int32) : Option (Int32 × St) :=
  bd (f_M_isExpression N σ x2) fun r1 s2 =>
  if r1 = 0 then (
    some ((-101 : Int32), s2)
  ) else (
    bd (f_M_within N s2 (x1).toInt64 (0 : Int64) (5 : Int64)) fun r3 s4 =>
    if r3 = 0 then (
      some ((-102 : Int32), s4)
    ) else (
      bd (f_M_isTruth N s4 x2) fun r5 s6 =>
      if r5 = 0 then (
        ckb x2 60 <|
        if (ga s6 8 (x2).toNatClampNeg) = 0 then (
          if (gi s6 1) = (60 : Int32) then (
            some ((-104 : Int32), s6)
          ) else (
            if (gi s6 2) = (8 : Int32) then (
              some ((-104 : Int32), s6)
            ) else (
              ckb x2 60 <|
              if ((1 : Int32) + (ga s6 7 (x2).toNatClampNeg)) ≤ (60 : Int32) then (
                ckb (gi s6 2) 8 <|
                nm (wa s6 10 (gi s6 2) (gi s6 1)) fun s7 =>
                nm (si s7 2 ((gi s7 2) + (1 : Int32))) fun s8 =>
                bd (f_M_make N s8 ((30 : Int32) + x1) x2 (0 : Int32) (0 : Int64) x3) fun r9 s10 =>
                some (r9, s10)
              ) else (
                some ((-104 : Int32), s6)
              )
            )
          )
        ) else (
          some ((-103 : Int32), s6)
        )
      ) else (
        some ((-103 : Int32), s6)
      )
    )
  )
def f_M_source_87 (N : Nat) (σ : St) (x1 : Int32) (x2 : Int32) (x3 : Int32) : Option (Int32 × St) :=
  if (gi σ 3) = (3 : Int32) then (
    some ((-104 : Int32), σ)
  ) else (
    ckb (gi σ 3) 3 <|
    nm (wa σ 11 (gi σ 3) x1) fun s5 =>
    ckb (gi s5 3) 3 <|
    nm (wa s5 12 (gi s5 3) x2) fun s6 =>
    ckb (gi s6 3) 3 <|
    nm (wa s6 13 (gi s6 3) x3) fun s7 =>
    nm (si s7 3 ((gi s7 3) + (1 : Int32))) fun s8 =>
    some ((gi s8 3), s8)
  )
def f_M_source_67 (N : Nat) (σ : St) (x1 : Int32) (x2 : Int32) (x3 : Int32) : Option (Int32 × St) :=
  if x2 ≤ 0 then (
    f_M_source_87 N σ x1 x2 x3
  ) else (
    if x3 = (-1 : Int32) then (
      some ((-103 : Int32), σ)
    ) else (
      bd (f_M_isTruth N σ x3) fun r9 s10 =>
      if r9 = 0 then (
        some ((-103 : Int32), s10)
      ) else (
        f_M_source_87 N s10 x1 x2 x3
      )
    )
  )
def f_M_source_58 (N : Nat) (σ : St) (x1 : Int32) (x2 : Int32) (x3 : Int32) : Option (Int32 × St) :=
  if x2 = 0 then (
    if x3 = (-1 : Int32) then (
      f_M_source_67 N σ x1 x2 x3
    ) else (
      some ((-103 : Int32), σ)
    )
  ) else (
    f_M_source_67 N σ x1 x2 x3
  )
def f_M_source_32 (N : Nat) (σ : St) (x1 : Int32) (x2 : Int32) (x3 : Int32) : Option (Int32 × St) :=
  bd (f_M_within N σ (x2).toInt64 (0 : Int64) (2 : Int64)) fun r3 s4 =>
  if r3 = 0 then (
    some ((-102 : Int32), s4)
  ) else (
    if (gi s4 3) = 0 then (
      if x2 = 0 then (
        f_M_source_58 N s4 x1 x2 x3
      ) else (
        some ((-103 : Int32), s4)
      )
    ) else (
      f_M_source_58 N s4 x1 x2 x3
    )
  )
def f_M_source (N : Nat) (σ : St) (x1 : Int32) (x2 : Int32) (x3 : Int32) : Option (Int32 × St) :=
  bd (f_M_within N σ (x1).toInt64 (0 : Int64) (((gi σ 0) - (1 : Int32))).toInt64) fun r1 s2 =>
  if r1 = 0 then (
    some ((-101 : Int32), s2)
  ) else (
    if x3 = (-1 : Int32) then (
      f_M_source_32 N s2 x1 x2 x3
    ) else (
      bd (f_M_isExpression N s2 x3) fun r11 s12 =>
      if r11 = 0 then (
        some ((-101 : Int32), s12)
      ) else (
        f_M_source_32 N s12 x1 x2 x3
      )
    )
  )
def f_M_condition_48 (N : Nat) (σ : St) (x1 : Int32) (x2 : Int32) (t0 : Int32) : Option (Int32 × St) :=
  nm (si σ 4 t0) fun s7 =>
  if x1 = (1 : Int32) then (
    nm (si s7 5 x2) fun s9 =>
    some ((1 : Int32), s9)
  ) else (
    nm (si s7 5 (gi s7 5)) fun s8 =>
    some ((1 : Int32), s8)
  )
def f_M_condition (N : Nat) (σ : St) (x1 : Int32) (x2 : Int32) : Option (Int32 × St) :=
  bd (f_M_isExpression N σ x2) fun r1 s2 =>
  if r1 = 0 then (
    some ((-101 : Int32), s2)
  ) else (
    bd (f_M_within N s2 (x1).toInt64 (0 : Int64) (1 : Int64)) fun r3 s4 =>
    if r3 = 0 then (
      some ((-102 : Int32), s4)
    ) else (
      bd (f_M_isTruth N s4 x2) fun r5 s6 =>
      if r5 = 0 then (
        some ((-103 : Int32), s6)
      ) else (
        if x1 = 0 then (
          f_M_condition_48 N s6 x1 x2 x2
        ) else (
          f_M_condition_48 N s6 x1 x2 (gi s6 4)
        )
      )
    )
  )
def f_M_group (N : Nat) (σ : St) (x1 : Int32) : Option (Int32 × St) :=
  bd (f_M_isExpression N σ x1) fun r1 s2 =>
  if r1 = 0 then (
    some ((-101 : Int32), s2)
  ) else (
    bd (f_M_isTruth N s2 x1) fun r3 s4 =>
    if r3 = 0 then (
      if (gi s4 6) = (4 : Int32) then (
        some ((-104 : Int32), s4)
      ) else (
        ckb (gi s4 6) 4 <|
        nm (wa s4 14 (gi s4 6) x1) fun s5 =>
        nm (si s5 6 ((gi s5 6) + (1 : Int32))) fun s6 =>
        some ((gi s6 6), s6)
      )
    ) else (
      some ((-103 : Int32), s4)
    )
  )
def f_M_item (N : Nat) (σ : St) (x1 : Int32) : Option (Int32 × St) :=
  bd (f_M_isExpression N σ x1) fun r1 s2 =>
  if r1 = 0 then (
    some ((-101 : Int32), s2)
  ) else (
    bd (f_M_isTruth N s2 x1) fun r3 s4 =>
    if r3 = 0 then (
      if (gi s4 7) = (6 : Int32) then (
        some ((-104 : Int32), s4)
      ) else (
        ckb (gi s4 7) 6 <|
        nm (wa s4 15 (gi s4 7) x1) fun s5 =>
        nm (si s5 7 ((gi s5 7) + (1 : Int32))) fun s6 =>
        some (((gi s6 7) - (1 : Int32)), s6)
      )
    ) else (
      some ((-103 : Int32), s4)
    )
  )
def f_M_order (N : Nat) (σ : St) (x1 : Int32) (x2 : Int32) : Option (Int32 × St) :=
  bd (f_M_within N σ (x1).toInt64 (0 : Int64) (((gi σ 7) - (1 : Int32))).toInt64) fun r1 s2 =>
  if r1 = 0 then (
    some ((-101 : Int32), s2)
  ) else (
    if (gi s2 8) = (4 : Int32) then (
      some ((-104 : Int32), s2)
    ) else (
      ckb (gi s2 8) 4 <|
      nm (wa s2 16 (gi s2 8) x1) fun s3 =>
      ckb (gi s3 8) 4 <|
      nm (wz s3 17 (gi s3 8) x2) fun s4 =>
      nm (si s4 8 ((gi s4 8) + (1 : Int32))) fun s5 =>
      some ((gi s5 8), s5)
    )
  )
def f_M_shape (N : Nat) (σ : St) (x1 : Int32) (x2 : Int32) (x3 : Int32) : Option (Int32 × St) :=
  bd (f_M_within N σ (x2).toInt64 (0 : Int64) (1000 : Int64)) fun r1 s2 =>
  if r1 = 0 then (
    some ((-102 : Int32), s2)
  ) else (
    bd (f_M_within N s2 (x3).toInt64 (0 : Int64) (1000 : Int64)) fun r3 s4 =>
    if r3 = 0 then (
      some ((-102 : Int32), s4)
    ) else (
      ckt x1 <|
      nm (si s4 9 x1) fun s5 =>
      nm (si s5 10 x2) fun s6 =>
      nm (si s6 11 x3) fun s7 =>
      some ((1 : Int32), s7)
    )
  )
def f_M_give (N : Nat) (σ : St) (x1 : Int64) (x3 : Int32) : Option (Unit × St) :=
  ckb (gi σ 20) 64 <|
  nm (wl σ 6 (gi σ 20) x1) fun s1 =>
  ckb (gi s1 20) 64 <|
  nm (wz s1 26 (gi s1 20) x3) fun s2 =>
  nm (si s2 20 ((gi s2 20) + (1 : Int32))) fun s3 =>
  some ((), s3)
def f_M_size (N : Nat) (σ : St) (x0 : Int64) : Option (Int64 × St) :=
  if 0 ≤ (lg_cmp x0 (0 : Int64)) then (
    some (x0, σ)
  ) else (
    some ((-x0), σ)
  )
def f_M_reckon_126 (N : Nat) (σ : St) (t0 : Int64) : Option (Int64 × St) :=
  bd (f_M_size N σ t0) fun r1 s2 =>
  if (lg_cmp r1 (1000000000000000 : Int64)) ≤ 0 then (
    nm (si s2 14 (gi s2 14)) fun s3 =>
    some (t0, s3)
  ) else (
    nm (si s2 14 (-21 : Int32)) fun s4 =>
    some (t0, s4)
  )
def f_M_reckon_70 (N : Nat) (σ : St) (x2 : Int64) (x4 : Int64) (x6 : Int32) (t0 : Int32) : Option (Int64 × St) :=
  nm (si σ 14 t0) fun s5 =>
  if x6 = 0 then (
    some ((x2 * x4), s5)
  ) else (
    some ((0 : Int64), s5)
  )
def f_M_reckon_53 (N : Nat) (σ : St) (x2 : Int64) (x4 : Int64) (t0 : Int32) : Option (Int64 × St) :=
  if t0 = 0 then (
    f_M_reckon_70 N σ x2 x4 t0 (gi σ 14)
  ) else (
    f_M_reckon_70 N σ x2 x4 t0 (-21 : Int32)
  )
def f_M_reckon_52 (N : Nat) (σ : St) (x2 : Int64) (x4 : Int64) : Option (Int64 × St) :=
  f_M_reckon_53 N σ x2 x4 (0 : Int32)
def f_M_reckon_20 (N : Nat) (σ : St) (x1 : Int32) (x2 : Int64) (x4 : Int64) : Option (Int64 × St) :=
  if x1 = (2 : Int32) then (
    if (lg_cmp x2 (0 : Int64)) = 0 then (
      f_M_reckon_52 N σ x2 x4
    ) else (
      bd (f_M_size N σ x4) fun r6 s7 =>
      bd (f_M_size N s7 x2) fun r8 s9 =>
      ckzl r8 <|
      if (lg_cmp r6 ((1000000000000000 : Int64) / r8)) ≤ 0 then (
        f_M_reckon_52 N s9 x2 x4
      ) else (
        f_M_reckon_53 N s9 x2 x4 (1 : Int32)
      )
    )
  ) else (
    if x1 = 0 then (
      f_M_reckon_126 N σ (x2 + x4)
    ) else (
      if x1 = (1 : Int32) then (
        f_M_reckon_126 N σ (x2 - x4)
      ) else (
        if x1 = (3 : Int32) then (
          ckzl x4 <|
          f_M_reckon_126 N σ (x2 / x4)
        ) else (
          ckzl x4 <|
          f_M_reckon_126 N σ (x2 - x2 / x4 * x4)
        )
      )
    )
  )
def f_M_reckon (N : Nat) (σ : St) (x1 : Int32) (x2 : Int64) (x4 : Int64) : Option (Int64 × St) :=
  if x1 < (3 : Int32) then (
    f_M_reckon_20 N σ x1 x2 x4
  ) else (
    if (lg_cmp x4 (0 : Int64)) = 0 then (
      nm (si σ 14 (-20 : Int32)) fun s10 =>
      some ((0 : Int64), s10)
    ) else (
      f_M_reckon_20 N σ x1 x2 x4
    )
  )
def f_M_truthOf (N : Nat) (σ : St) (x0 : Int32) : Option (Int64 × St) :=
  if x0 = 0 then (
    some ((0 : Int64), σ)
  ) else (
    some ((1 : Int64), σ)
  )
def f_M_combine_291 (N : Nat) (σ : St) (x6 : Int32) (t0 : Int64) : Option (Unit × St) :=
  bd (f_M_give N σ t0 x6) fun _ s3 =>
  some ((), s3)
def f_M_combine_266 (N : Nat) (σ : St) (t0 : Int64) : Option (Unit × St) :=
  bd (f_M_give N σ t0 (0 : Int32)) fun _ s7 =>
  some ((), s7)
def f_M_combine_247 (N : Nat) (σ : St) (x6 : Int32) (t0 : Int32) : Option (Unit × St) :=
  if x6 = 0 then (
    bd (f_M_truthOf N σ t0) fun r8 s9 =>
    f_M_combine_266 N s9 r8
  ) else (
    f_M_combine_266 N σ (2 : Int64)
  )
def f_M_combine_161 (N : Nat) (σ : St) (t0 : Int64) : Option (Unit × St) :=
  bd (f_M_give N σ t0 (0 : Int32)) fun _ s11 =>
  some ((), s11)
def f_M_combine_137 (N : Nat) (σ : St) : Option (Unit × St) :=
  f_M_combine_161 N σ (1 : Int64)
def f_M_combine_158 (N : Nat) (σ : St) : Option (Unit × St) :=
  f_M_combine_161 N σ (2 : Int64)
def f_M_combine_110 (N : Nat) (σ : St) (t0 : Int64) : Option (Unit × St) :=
  bd (f_M_give N σ t0 (0 : Int32)) fun _ s13 =>
  some ((), s13)
def f_M_combine_86 (N : Nat) (σ : St) : Option (Unit × St) :=
  f_M_combine_110 N σ (0 : Int64)
def f_M_combine_107 (N : Nat) (σ : St) : Option (Unit × St) :=
  f_M_combine_110 N σ (2 : Int64)
def f_M_combine_64 (N : Nat) (σ : St) (x1 : Int32) (x2 : Int64) (x4 : Int64) (t0 : Int32) : Option (Unit × St) :=
  if x1 = (9 : Int32) then (
    if (lg_cmp x2 (0 : Int64)) = 0 then (
      f_M_combine_86 N σ
    ) else (
      if (lg_cmp x4 (0 : Int64)) = 0 then (
        f_M_combine_86 N σ
      ) else (
        if (lg_cmp x2 (1 : Int64)) = 0 then (
          if (lg_cmp x4 (1 : Int64)) = 0 then (
            f_M_combine_110 N σ (1 : Int64)
          ) else (
            f_M_combine_107 N σ
          )
        ) else (
          f_M_combine_107 N σ
        )
      )
    )
  ) else (
    if x1 = (10 : Int32) then (
      if (lg_cmp x2 (1 : Int64)) = 0 then (
        f_M_combine_137 N σ
      ) else (
        if (lg_cmp x4 (1 : Int64)) = 0 then (
          f_M_combine_137 N σ
        ) else (
          if (lg_cmp x2 (0 : Int64)) = 0 then (
            if (lg_cmp x4 (0 : Int64)) = 0 then (
              f_M_combine_161 N σ (0 : Int64)
            ) else (
              f_M_combine_158 N σ
            )
          ) else (
            f_M_combine_158 N σ
          )
        )
      )
    ) else (
      if x1 < (5 : Int32) then (
        if t0 = 0 then (
          bd (f_M_reckon N σ x1 x2 x4) fun r4 s5 =>
          f_M_combine_291 N s5 t0 r4
        ) else (
          f_M_combine_291 N σ t0 (0 : Int64)
        )
      ) else (
        if x1 = (5 : Int32) then (
          if (lg_cmp x2 x4) = 0 then (
            f_M_combine_247 N σ t0 (1 : Int32)
          ) else (
            f_M_combine_247 N σ t0 (0 : Int32)
          )
        ) else (
          if x1 = (6 : Int32) then (
            if (lg_cmp x2 x4) = 0 then (
              f_M_combine_247 N σ t0 (0 : Int32)
            ) else (
              f_M_combine_247 N σ t0 (1 : Int32)
            )
          ) else (
            if x1 = (7 : Int32) then (
              if 0 ≤ (lg_cmp x2 x4) then (
                f_M_combine_247 N σ t0 (0 : Int32)
              ) else (
                f_M_combine_247 N σ t0 (1 : Int32)
              )
            ) else (
              if 0 < (lg_cmp x2 x4) then (
                f_M_combine_247 N σ t0 (0 : Int32)
              ) else (
                f_M_combine_247 N σ t0 (1 : Int32)
              )
            )
          )
        )
      )
    )
  )
def f_M_combine_59 (N : Nat) (σ : St) (x1 : Int32) (x2 : Int64) (x4 : Int64) : Option (Unit × St) :=
  f_M_combine_64 N σ x1 x2 x4 (1 : Int32)
def f_M_combine (N : Nat) (σ : St) (x1 : Int32) : Option (Unit × St) :=
  nm (si σ 20 ((gi σ 20) - (2 : Int32))) fun s1 =>
  ckb (gi s1 20) 64 <|
  ckb ((gi s1 20) + (1 : Int32)) 64 <|
  ckb (gi s1 20) 64 <|
  if (ga s1 26 ((gi s1 20)).toNatClampNeg) = 0 then (
    ckb ((gi s1 20) + (1 : Int32)) 64 <|
    if (ga s1 26 (((gi s1 20) + (1 : Int32))).toNatClampNeg) = 0 then (
      f_M_combine_64 N s1 x1 (gb s1 6 ((gi s1 20)).toNatClampNeg) (gb s1 6 (((gi s1 20) + (1 : Int32))).toNatClampNeg) (0 : Int32)
    ) else (
      f_M_combine_59 N s1 x1 (gb s1 6 ((gi s1 20)).toNatClampNeg) (gb s1 6 (((gi s1 20) + (1 : Int32))).toNatClampNeg)
    )
  ) else (
    f_M_combine_59 N s1 x1 (gb s1 6 ((gi s1 20)).toNatClampNeg) (gb s1 6 (((gi s1 20) + (1 : Int32))).toNatClampNeg)
  )
def f_M_push (N : Nat) (σ : St) (x1 : Int32) : Option (Unit × St) :=
  ckb (gi σ 19) 64 <|
  nm (wa σ 24 (gi σ 19) x1) fun s1 =>
  ckb (gi s1 19) 64 <|
  nm (wa s1 25 (gi s1 19) (0 : Int32)) fun s2 =>
  nm (si s2 19 ((gi s2 19) + (1 : Int32))) fun s3 =>
  some ((), s3)
def f_M_aggregateNumber_4_b (N : Nat) (k4 : St → Int32 → Int32 → Int32 → Option (Int32 × St)) (σ : St) (x1 : Int32) (x2 : Int32) (x3 : Int32) : Option (Int32 × St) :=
  if (gi σ 2) ≤ x3 then (
    some (x2, σ)
  ) else (
    ckb x3 8 <|
    if (ga σ 10 (x3).toNatClampNeg) = x1 then (
      k4 σ x1 x3 (x3 + 1)
    ) else (
      k4 σ x1 x2 (x3 + 1)
    )
  )
def f_M_aggregateNumber_4 (N : Nat) : Nat → St → Int32 → Int32 → Int32 → Option (Int32 × St)
  | 0 => fun _ _ _ _ => none
  | n + 1 => f_M_aggregateNumber_4_b N (f_M_aggregateNumber_4 N n)
def f_M_aggregateNumber (N : Nat) (σ : St) (x1 : Int32) : Option (Int32 × St) :=
  f_M_aggregateNumber_4 N N σ x1 (-1 : Int32) (0 : Int32)
def f_M_countsIn_115 (N : Nat) (σ : St) (x3 : Int32) : Option (Int32 × St) :=
  if x3 = 0 then (
    some ((1 : Int32), σ)
  ) else (
    some ((0 : Int32), σ)
  )
def f_M_countsIn_21_b (N : Nat) (k21 : St → Int32 → Int32 → Int32 → Int32 → Option (Int32 × St)) (σ : St) (x1 : Int32) (x2 : Int32) (x3 : Int32) (x4 : Int32) : Option (Int32 × St) :=
  if x1 ≤ x4 then (
    f_M_countsIn_115 N σ x3
  ) else (
    ckb x2 8 <|
    ckb (ga σ 10 (x2).toNatClampNeg) 60 <|
    if (ga σ 6 ((ga σ 10 (x2).toNatClampNeg)).toNatClampNeg) = 0 then (
      f_M_countsIn_115 N σ x3
    ) else (
      if x3 = 0 then (
        ckb x4 520 <|
        ckb x1 520 <|
        if (ga σ 20 (x4).toNatClampNeg) = (ga σ 20 (x1).toNatClampNeg) then (
          ckb (((8 : Int32) * x4) + x2) 4160 <|
          if (ga σ 21 ((((8 : Int32) * x4) + x2)).toNatClampNeg) = 0 then (
            ckb (((8 : Int32) * x4) + x2) 4160 <|
            ckb (((8 : Int32) * x1) + x2) 4160 <|
            if (lg_cmp (gb σ 3 ((((8 : Int32) * x4) + x2)).toNatClampNeg) (gb σ 3 ((((8 : Int32) * x1) + x2)).toNatClampNeg)) = 0 then (
              k21 σ x1 x2 (1 : Int32) (x4 + 1)
            ) else (
              k21 σ x1 x2 (0 : Int32) (x4 + 1)
            )
          ) else (
            k21 σ x1 x2 (0 : Int32) (x4 + 1)
          )
        ) else (
          k21 σ x1 x2 (0 : Int32) (x4 + 1)
        )
      ) else (
        k21 σ x1 x2 (1 : Int32) (x4 + 1)
      )
    )
  )
def f_M_countsIn_21 (N : Nat) : Nat → St → Int32 → Int32 → Int32 → Int32 → Option (Int32 × St)
  | 0 => fun _ _ _ _ _ => none
  | n + 1 => f_M_countsIn_21_b N (f_M_countsIn_21 N n)
def f_M_countsIn (N : Nat) (σ : St) (x1 : Int32) (x2 : Int32) : Option (Int32 × St) :=
  ckb (((8 : Int32) * x1) + x2) 4160 <|
  if (ga σ 21 ((((8 : Int32) * x1) + x2)).toNatClampNeg) = 0 then (
    f_M_countsIn_21 N N σ x1 x2 (0 : Int32) (0 : Int32)
  ) else (
    some ((0 : Int32), σ)
  )
def f_M_giveAggregate_241 (N : Nat) (σ : St) (x14 : Int32) (t0 : Int64) : Option (Unit × St) :=
  bd (f_M_give N σ t0 x14) fun _ s4 =>
  some ((), s4)
def f_M_giveAggregate_195 (N : Nat) (σ : St) (x3 : Int32) (x6 : Int64) (x8 : Int64) (x10 : Int64) (x12 : Int64) (t0 : Int32) : Option (Unit × St) :=
  if t0 = 0 then (
    if x3 = (2 : Int32) then (
      f_M_giveAggregate_241 N σ t0 x8
    ) else (
      if x3 = (3 : Int32) then (
        f_M_giveAggregate_241 N σ t0 x10
      ) else (
        if x3 = (4 : Int32) then (
          f_M_giveAggregate_241 N σ t0 x12
        ) else (
          ckzl x6 <|
          f_M_giveAggregate_241 N σ t0 (x8 / x6)
        )
      )
    )
  ) else (
    f_M_giveAggregate_241 N σ t0 (0 : Int64)
  )
def f_M_giveAggregate_178 (N : Nat) (σ : St) (t0 : Int64) : Option (Unit × St) :=
  bd (f_M_give N σ t0 (0 : Int32)) fun _ s6 =>
  some ((), s6)
def f_M_giveAggregate_140 (N : Nat) (k34 : St → Int32 → Int32 → Int64 → Int64 → Int64 → Int64 → Int64 → Int32 → Option (Unit × St)) (σ : St) (x2 : Int32) (x3 : Int32) (x4 : Int64) (x6 : Int64) (x8 : Int64) (x10 : Int64) (x14 : Int32) (x15 : Int64) (t0 : Int64) : Option (Unit × St) :=
  k34 σ x2 x3 x4 (x6 + (1 : Int64)) (x8 + x15) x10 t0 (x14 + 1)
def f_M_giveAggregate_133 (N : Nat) (k34 : St → Int32 → Int32 → Int64 → Int64 → Int64 → Int64 → Int64 → Int32 → Option (Unit × St)) (σ : St) (x2 : Int32) (x3 : Int32) (x4 : Int64) (x6 : Int64) (x8 : Int64) (x10 : Int64) (x14 : Int32) (x15 : Int64) : Option (Unit × St) :=
  f_M_giveAggregate_140 N k34 σ x2 x3 x4 x6 x8 x10 x14 x15 x15
def f_M_giveAggregate_116 (N : Nat) (k34 : St → Int32 → Int32 → Int64 → Int64 → Int64 → Int64 → Int64 → Int32 → Option (Unit × St)) (σ : St) (x2 : Int32) (x3 : Int32) (x4 : Int64) (x6 : Int64) (x8 : Int64) (x12 : Int64) (x14 : Int32) (x15 : Int64) (t0 : Int64) : Option (Unit × St) :=
  if (lg_cmp x6 (0 : Int64)) = 0 then (
    f_M_giveAggregate_133 N k34 σ x2 x3 x4 x6 x8 t0 x14 x15
  ) else (
    if (lg_cmp x15 x12) ≤ 0 then (
      f_M_giveAggregate_140 N k34 σ x2 x3 x4 x6 x8 t0 x14 x15 x12
    ) else (
      f_M_giveAggregate_133 N k34 σ x2 x3 x4 x6 x8 t0 x14 x15
    )
  )
def f_M_giveAggregate_109 (N : Nat) (k34 : St → Int32 → Int32 → Int64 → Int64 → Int64 → Int64 → Int64 → Int32 → Option (Unit × St)) (σ : St) (x2 : Int32) (x3 : Int32) (x4 : Int64) (x6 : Int64) (x8 : Int64) (x12 : Int64) (x14 : Int32) (x15 : Int64) : Option (Unit × St) :=
  f_M_giveAggregate_116 N k34 σ x2 x3 x4 x6 x8 x12 x14 x15 x15
def f_M_giveAggregate_34_b (N : Nat) (k34 : St → Int32 → Int32 → Int64 → Int64 → Int64 → Int64 → Int64 → Int32 → Option (Unit × St)) (σ : St) (x2 : Int32) (x3 : Int32) (x4 : Int64) (x6 : Int64) (x8 : Int64) (x10 : Int64) (x12 : Int64) (x14 : Int32) : Option (Unit × St) :=
  if (gi σ 16) ≤ x14 then (
    if (2 : Int32) ≤ x3 then (
      if (lg_cmp x6 (0 : Int64)) = 0 then (
        f_M_giveAggregate_195 N σ x3 x6 x8 x10 x12 (1 : Int32)
      ) else (
        f_M_giveAggregate_195 N σ x3 x6 x8 x10 x12 (0 : Int32)
      )
    ) else (
      if x3 = 0 then (
        f_M_giveAggregate_178 N σ x4
      ) else (
        f_M_giveAggregate_178 N σ x6
      )
    )
  ) else (
    ckb x14 520 <|
    if (ga σ 20 (x14).toNatClampNeg) = (gi σ 18) then (
      if x3 ≤ 0 then (
        k34 σ x2 x3 (x4 + (1 : Int64)) x6 x8 x10 x12 (x14 + 1)
      ) else (
        bd (f_M_countsIn N σ x14 x2) fun r7 s8 =>
        if r7 = 0 then (
          k34 s8 x2 x3 (x4 + (1 : Int64)) x6 x8 x10 x12 (x14 + 1)
        ) else (
          ckb (((8 : Int32) * x14) + x2) 4160 <|
          if (lg_cmp x6 (0 : Int64)) = 0 then (
            f_M_giveAggregate_109 N k34 s8 x2 x3 (x4 + (1 : Int64)) x6 x8 x12 x14 (gb s8 3 ((((8 : Int32) * x14) + x2)).toNatClampNeg)
          ) else (
            if 0 ≤ (lg_cmp (gb s8 3 ((((8 : Int32) * x14) + x2)).toNatClampNeg) x10) then (
              f_M_giveAggregate_116 N k34 s8 x2 x3 (x4 + (1 : Int64)) x6 x8 x12 x14 (gb s8 3 ((((8 : Int32) * x14) + x2)).toNatClampNeg) x10
            ) else (
              f_M_giveAggregate_109 N k34 s8 x2 x3 (x4 + (1 : Int64)) x6 x8 x12 x14 (gb s8 3 ((((8 : Int32) * x14) + x2)).toNatClampNeg)
            )
          )
        )
      )
    ) else (
      k34 σ x2 x3 x4 x6 x8 x10 x12 (x14 + 1)
    )
  )
def f_M_giveAggregate_34 (N : Nat) : Nat → St → Int32 → Int32 → Int64 → Int64 → Int64 → Int64 → Int64 → Int32 → Option (Unit × St)
  | 0 => fun _ _ _ _ _ _ _ _ _ => none
  | n + 1 => f_M_giveAggregate_34_b N (f_M_giveAggregate_34 N n)
def f_M_giveAggregate (N : Nat) (σ : St) (x1 : Int32) : Option (Unit × St) :=
  bd (f_M_aggregateNumber N σ x1) fun r1 s2 =>
  ckb x1 60 <|
  f_M_giveAggregate_34 N N s2 r1 ((ga s2 3 (x1).toNatClampNeg) - (30 : Int32)) (0 : Int64) (0 : Int64) (0 : Int64) (0 : Int64) (0 : Int64) (0 : Int32)
def f_M_giveColumn_74 (N : Nat) (σ : St) (x4 : Int32) (t0 : Int64) : Option (Unit × St) :=
  bd (f_M_give N σ t0 x4) fun _ s2 =>
  some ((), s2)
def f_M_giveColumn_56 (N : Nat) (σ : St) (x3 : Int32) (t0 : Int32) : Option (Unit × St) :=
  if t0 = 0 then (
    ckb x3 192 <|
    f_M_giveColumn_74 N σ t0 (gb σ 0 (x3).toNatClampNeg)
  ) else (
    f_M_giveColumn_74 N σ t0 (0 : Int64)
  )
def f_M_giveColumn_51 (N : Nat) (σ : St) (x3 : Int32) : Option (Unit × St) :=
  f_M_giveColumn_56 N σ x3 (1 : Int32)
def f_M_giveColumn (N : Nat) (σ : St) (x1 : Int32) : Option (Unit × St) :=
  ckb x1 60 <|
  ckb (ga σ 4 (x1).toNatClampNeg) 3 <|
  ckb x1 60 <|
  ckb (ga σ 4 (x1).toNatClampNeg) 3 <|
  ckb x1 60 <|
  if (ga σ 19 ((ga σ 4 (x1).toNatClampNeg)).toNatClampNeg) < 0 then (
    f_M_giveColumn_51 N σ ((((32 : Int32) * (ga σ 11 ((ga σ 4 (x1).toNatClampNeg)).toNatClampNeg)) + ((4 : Int32) * (ga σ 19 ((ga σ 4 (x1).toNatClampNeg)).toNatClampNeg))) + (ga σ 5 (x1).toNatClampNeg))
  ) else (
    ckb ((((32 : Int32) * (ga σ 11 ((ga σ 4 (x1).toNatClampNeg)).toNatClampNeg)) + ((4 : Int32) * (ga σ 19 ((ga σ 4 (x1).toNatClampNeg)).toNatClampNeg))) + (ga σ 5 (x1).toNatClampNeg)) 192 <|
    if (ga σ 2 (((((32 : Int32) * (ga σ 11 ((ga σ 4 (x1).toNatClampNeg)).toNatClampNeg)) + ((4 : Int32) * (ga σ 19 ((ga σ 4 (x1).toNatClampNeg)).toNatClampNeg))) + (ga σ 5 (x1).toNatClampNeg))).toNatClampNeg) = 0 then (
      f_M_giveColumn_56 N σ ((((32 : Int32) * (ga σ 11 ((ga σ 4 (x1).toNatClampNeg)).toNatClampNeg)) + ((4 : Int32) * (ga σ 19 ((ga σ 4 (x1).toNatClampNeg)).toNatClampNeg))) + (ga σ 5 (x1).toNatClampNeg)) (0 : Int32)
    ) else (
      f_M_giveColumn_51 N σ ((((32 : Int32) * (ga σ 11 ((ga σ 4 (x1).toNatClampNeg)).toNatClampNeg)) + ((4 : Int32) * (ga σ 19 ((ga σ 4 (x1).toNatClampNeg)).toNatClampNeg))) + (ga σ 5 (x1).toNatClampNeg))
    )
  )
def f_M_groupLike_9_b (N : Nat) (k9 : St → Int32 → Int32 → Int32 → Option (Int32 × St)) (σ : St) (x1 : Int32) (x2 : Int32) (x3 : Int32) : Option (Int32 × St) :=
  if x3 < 0 then (
    some (x2, σ)
  ) else (
    ckb x3 4 <|
    ckb (ga σ 14 (x3).toNatClampNeg) 60 <|
    ckb x1 60 <|
    if (ga σ 9 ((ga σ 14 (x3).toNatClampNeg)).toNatClampNeg) = (ga σ 9 (x1).toNatClampNeg) then (
      k9 σ x1 x3 (x3 + Int32.ofInt (-1))
    ) else (
      k9 σ x1 x2 (x3 + Int32.ofInt (-1))
    )
  )
def f_M_groupLike_9 (N : Nat) : Nat → St → Int32 → Int32 → Int32 → Option (Int32 × St)
  | 0 => fun _ _ _ _ => none
  | n + 1 => f_M_groupLike_9_b N (f_M_groupLike_9 N n)
def f_M_groupLike (N : Nat) (σ : St) (x1 : Int32) : Option (Int32 × St) :=
  f_M_groupLike_9 N N σ x1 (-1 : Int32) ((gi σ 6) - (1 : Int32))
def f_M_lookOnce_399 (N : Nat) (σ : St) (x1 : Int32) (x2 : Int32) (x3 : Int32) : Option (Unit × St) :=
  ckb x1 64 <|
  if (ga σ 25 (x1).toNatClampNeg) = (1 : Int32) then (
    ckb x1 64 <|
    nm (wa σ 25 x1 (2 : Int32)) fun s4 =>
    ckb x2 60 <|
    bd (f_M_push N s4 (ga s4 5 (x2).toNatClampNeg)) fun _ s6 =>
    some ((), s6)
  ) else (
    bd (f_M_combine N σ x3) fun _ s2 =>
    nm (si s2 19 ((gi s2 19) - (1 : Int32))) fun s3 =>
    some ((), s3)
  )
def f_M_lookOnce_386 (N : Nat) (σ : St) : Option (Unit × St) :=
  nm (si σ 19 ((gi σ 19) - (1 : Int32))) fun s7 =>
  some ((), s7)
def f_M_lookOnce_364 (N : Nat) (σ : St) (x1 : Int32) (x2 : Int32) (x3 : Int32) : Option (Unit × St) :=
  if x3 = (10 : Int32) then (
    ckb ((gi σ 20) - (1 : Int32)) 64 <|
    if (lg_cmp (gb σ 6 (((gi σ 20) - (1 : Int32))).toNatClampNeg) (1 : Int64)) = 0 then (
      f_M_lookOnce_386 N σ
    ) else (
      f_M_lookOnce_399 N σ x1 x2 x3
    )
  ) else (
    f_M_lookOnce_399 N σ x1 x2 x3
  )
def f_M_lookOnce_262 (N : Nat) (σ : St) (t0 : Int64) (t1 : Int32) : Option (Unit × St) :=
  ckb t1 64 <|
  nm (wl σ 6 t1 t0) fun s13 =>
  nm (si s13 19 ((gi s13 19) - (1 : Int32))) fun s14 =>
  some ((), s14)
def f_M_lookOnce_115 (N : Nat) (σ : St) (x2 : Int32) (t0 : Int64) : Option (Unit × St) :=
  ckb x2 60 <|
  bd (f_M_give N σ t0 (ga σ 6 (x2).toNatClampNeg)) fun _ s25 =>
  nm (si s25 19 ((gi s25 19) - (1 : Int32))) fun s26 =>
  some ((), s26)
def f_M_lookOnce_37 (N : Nat) (σ : St) (x1 : Int32) (x2 : Int32) (x3 : Int32) (t0 : Int32) : Option (Unit × St) :=
  if t0 < 0 then (
    if x3 = (20 : Int32) then (
      ckb x2 60 <|
      if (ga σ 6 (x2).toNatClampNeg) = 0 then (
        ckb x2 60 <|
        f_M_lookOnce_115 N σ x2 (gb σ 1 (x2).toNatClampNeg)
      ) else (
        f_M_lookOnce_115 N σ x2 (0 : Int64)
      )
    ) else (
      if x3 = (21 : Int32) then (
        bd (f_M_giveColumn N σ x2) fun _ s22 =>
        nm (si s22 19 ((gi s22 19) - (1 : Int32))) fun s23 =>
        some ((), s23)
      ) else (
        if x3 < (30 : Int32) then (
          ckb x1 64 <|
          if (ga σ 25 (x1).toNatClampNeg) = 0 then (
            ckb x1 64 <|
            nm (wa σ 25 x1 (1 : Int32)) fun s15 =>
            ckb x2 60 <|
            bd (f_M_push N s15 (ga s15 4 (x2).toNatClampNeg)) fun _ s17 =>
            some ((), s17)
          ) else (
            if x3 = (11 : Int32) then (
              ckb ((gi σ 20) - (1 : Int32)) 64 <|
              if (lg_cmp (gb σ 6 (((gi σ 20) - (1 : Int32))).toNatClampNeg) (2 : Int64)) = 0 then (
                f_M_lookOnce_262 N σ (2 : Int64) ((gi σ 20) - (1 : Int32))
              ) else (
                f_M_lookOnce_262 N σ ((1 : Int64) - (gb σ 6 (((gi σ 20) - (1 : Int32))).toNatClampNeg)) ((gi σ 20) - (1 : Int32))
              )
            ) else (
              if x3 = (12 : Int32) then (
                ckb ((gi σ 20) - (1 : Int32)) 64 <|
                bd (f_M_truthOf N σ (ga σ 26 (((gi σ 20) - (1 : Int32))).toNatClampNeg)) fun r8 s9 =>
                ckb ((gi σ 20) - (1 : Int32)) 64 <|
                nm (wl s9 6 ((gi σ 20) - (1 : Int32)) r8) fun s10 =>
                ckb ((gi s10 20) - (1 : Int32)) 64 <|
                nm (wz s10 26 ((gi s10 20) - (1 : Int32)) (0 : Int32)) fun s11 =>
                nm (si s11 19 ((gi s11 19) - (1 : Int32))) fun s12 =>
                some ((), s12)
              ) else (
                ckb x1 64 <|
                if (ga σ 25 (x1).toNatClampNeg) = (1 : Int32) then (
                  if x3 = (9 : Int32) then (
                    ckb ((gi σ 20) - (1 : Int32)) 64 <|
                    if (lg_cmp (gb σ 6 (((gi σ 20) - (1 : Int32))).toNatClampNeg) (0 : Int64)) = 0 then (
                      f_M_lookOnce_386 N σ
                    ) else (
                      f_M_lookOnce_364 N σ x1 x2 x3
                    )
                  ) else (
                    f_M_lookOnce_364 N σ x1 x2 x3
                  )
                ) else (
                  f_M_lookOnce_399 N σ x1 x2 x3
                )
              )
            )
          )
        ) else (
          bd (f_M_giveAggregate N σ x2) fun _ s19 =>
          nm (si s19 19 ((gi s19 19) - (1 : Int32))) fun s20 =>
          some ((), s20)
        )
      )
    )
  ) else (
    ckb (((4 : Int32) * (gi σ 18)) + t0) 2080 <|
    ckb (((4 : Int32) * (gi σ 18)) + t0) 2080 <|
    bd (f_M_give N σ (gb σ 4 ((((4 : Int32) * (gi σ 18)) + t0)).toNatClampNeg) (ga σ 22 ((((4 : Int32) * (gi σ 18)) + t0)).toNatClampNeg)) fun _ s28 =>
    nm (si s28 19 ((gi s28 19) - (1 : Int32))) fun s29 =>
    some ((), s29)
  )
def f_M_lookOnce (N : Nat) (σ : St) : Option (Unit × St) :=
  ckb ((gi σ 19) - (1 : Int32)) 64 <|
  ckb (ga σ 24 (((gi σ 19) - (1 : Int32))).toNatClampNeg) 60 <|
  if (gi σ 18) < 0 then (
    f_M_lookOnce_37 N σ ((gi σ 19) - (1 : Int32)) (ga σ 24 (((gi σ 19) - (1 : Int32))).toNatClampNeg) (ga σ 3 ((ga σ 24 (((gi σ 19) - (1 : Int32))).toNatClampNeg)).toNatClampNeg) (-1 : Int32)
  ) else (
    bd (f_M_groupLike N σ (ga σ 24 (((gi σ 19) - (1 : Int32))).toNatClampNeg)) fun r30 s31 =>
    f_M_lookOnce_37 N s31 ((gi σ 19) - (1 : Int32)) (ga σ 24 (((gi σ 19) - (1 : Int32))).toNatClampNeg) (ga σ 3 ((ga σ 24 (((gi σ 19) - (1 : Int32))).toNatClampNeg)).toNatClampNeg) r30
  )
def f_M_workOut_15_b (N : Nat) (k15 : St → Option (Unit × St)) (σ : St) : Option (Unit × St) :=
  if (gi σ 19) ≤ 0 then (
    some ((), σ)
  ) else (
    if (gi σ 14) = 0 then (
      bd (f_M_lookOnce N σ) fun _ s4 =>
      k15 s4
    ) else (
      some ((), σ)
    )
  )
def f_M_workOut_15 (N : Nat) : Nat → St → Option (Unit × St)
  | 0 => fun _ => none
  | n + 1 => f_M_workOut_15_b N (f_M_workOut_15 N n)
def f_M_workOut (N : Nat) (σ : St) (x1 : Int32) : Option (Unit × St) :=
  nm (si σ 19 (0 : Int32)) fun s1 =>
  nm (si s1 20 (0 : Int32)) fun s2 =>
  bd (f_M_push N s2 x1) fun _ s6 =>
  f_M_workOut_15 N N s6
def f_M_giveRow_19_b (N : Nat) (k19 : St → Int32 → Option (Unit × St)) (σ : St) (x1 : Int32) : Option (Unit × St) :=
  if (gi σ 7) ≤ x1 then (
    nm (si σ 12 ((gi σ 12) + (1 : Int32))) fun s1 =>
    some ((), s1)
  ) else (
    ckb x1 6 <|
    bd (f_M_workOut N σ (ga σ 15 (x1).toNatClampNeg)) fun _ s3 =>
    if (gi s3 14) = 0 then (
      ckb (0 : Int32) 64 <|
      ckb (((6 : Int32) * (gi s3 12)) + x1) 1206 <|
      nm (wl s3 2 (((6 : Int32) * (gi s3 12)) + x1) (gb s3 6 ((0 : Int32)).toNatClampNeg)) fun s4 =>
      ckb (0 : Int32) 64 <|
      ckb (((6 : Int32) * (gi s4 12)) + x1) 1206 <|
      nm (wz s4 18 (((6 : Int32) * (gi s4 12)) + x1) (ga s4 26 ((0 : Int32)).toNatClampNeg)) fun s5 =>
      k19 s5 (x1 + 1)
    ) else (
      some ((), s3)
    )
  )
def f_M_giveRow_19 (N : Nat) : Nat → St → Int32 → Option (Unit × St)
  | 0 => fun _ _ => none
  | n + 1 => f_M_giveRow_19_b N (f_M_giveRow_19 N n)
def f_M_giveRow (N : Nat) (σ : St) : Option (Unit × St) :=
  if (gi σ 12) = (200 : Int32) then (
    nm (si σ 14 (-15 : Int32)) fun s6 =>
    some ((), s6)
  ) else (
    f_M_giveRow_19 N N σ (0 : Int32)
  )
def f_M_findGroup_186_b (N : Nat) (k186 : St → Int32 → Int32 → Option (Int32 × St)) (σ : St) (x1 : Int32) (x2 : Int32) : Option (Int32 × St) :=
  if (8 : Int32) ≤ x2 then (
    nm (si σ 17 ((gi σ 17) + (1 : Int32))) fun s1 =>
    some (x1, s1)
  ) else (
    ckb (((8 : Int32) * x1) + x2) 4160 <|
    nm (wl σ 5 (((8 : Int32) * x1) + x2) (0 : Int64)) fun s2 =>
    k186 s2 x1 (x2 + 1)
  )
def f_M_findGroup_186 (N : Nat) : Nat → St → Int32 → Int32 → Option (Int32 × St)
  | 0 => fun _ _ _ => none
  | n + 1 => f_M_findGroup_186_b N (f_M_findGroup_186 N n)
def f_M_findGroup_87_b (N : Nat) (k74 : St → Int32 → Int32 → Option (Int32 × St)) (k87 : St → Int32 → Int32 → Int32 → Int32 → Option (Int32 × St)) (σ : St) (x1 : Int32) (x2 : Int32) (x3 : Int32) (x4 : Int32) : Option (Int32 × St) :=
  if (gi σ 6) ≤ x4 then (
    if x3 = 0 then (
      k74 σ x1 (x2 + 1)
    ) else (
      some (x2, σ)
    )
  ) else (
    ckb (((4 : Int32) * x2) + x4) 2080 <|
    if x3 = 0 then (
      k87 σ x1 x2 (0 : Int32) (x4 + 1)
    ) else (
      ckb (((4 : Int32) * x1) + x4) 2080 <|
      if (ga σ 22 ((((4 : Int32) * x2) + x4)).toNatClampNeg) = (ga σ 22 ((((4 : Int32) * x1) + x4)).toNatClampNeg) then (
        if (ga σ 22 ((((4 : Int32) * x2) + x4)).toNatClampNeg) = 0 then (
          ckb (((4 : Int32) * x2) + x4) 2080 <|
          ckb (((4 : Int32) * x1) + x4) 2080 <|
          if (lg_cmp (gb σ 4 ((((4 : Int32) * x2) + x4)).toNatClampNeg) (gb σ 4 ((((4 : Int32) * x1) + x4)).toNatClampNeg)) = 0 then (
            k87 σ x1 x2 (1 : Int32) (x4 + 1)
          ) else (
            k87 σ x1 x2 (0 : Int32) (x4 + 1)
          )
        ) else (
          k87 σ x1 x2 (1 : Int32) (x4 + 1)
        )
      ) else (
        k87 σ x1 x2 (0 : Int32) (x4 + 1)
      )
    )
  )
def f_M_findGroup_87 (N : Nat) (k74 : St → Int32 → Int32 → Option (Int32 × St)) : Nat → St → Int32 → Int32 → Int32 → Int32 → Option (Int32 × St)
  | 0 => fun _ _ _ _ _ => none
  | n + 1 => f_M_findGroup_87_b N k74 (f_M_findGroup_87 N k74 n)
def f_M_findGroup_74_b (N : Nat) (k74 : St → Int32 → Int32 → Option (Int32 × St)) (σ : St) (x1 : Int32) (x2 : Int32) : Option (Int32 × St) :=
  if (gi σ 17) ≤ x2 then (
    f_M_findGroup_186 N N σ x1 (0 : Int32)
  ) else (
    f_M_findGroup_87 N k74 N σ x1 x2 (1 : Int32) (0 : Int32)
  )
def f_M_findGroup_74 (N : Nat) : Nat → St → Int32 → Int32 → Option (Int32 × St)
  | 0 => fun _ _ _ => none
  | n + 1 => f_M_findGroup_74_b N (f_M_findGroup_74 N n)
def f_M_findGroup_7_b (N : Nat) (k7 : St → Int32 → Int32 → Option (Int32 × St)) (σ : St) (x1 : Int32) (x2 : Int32) : Option (Int32 × St) :=
  if (gi σ 6) ≤ x2 then (
    f_M_findGroup_74 N N σ x1 (0 : Int32)
  ) else (
    ckb x2 4 <|
    bd (f_M_workOut N σ (ga σ 14 (x2).toNatClampNeg)) fun _ s4 =>
    if (gi s4 14) = 0 then (
      ckb (0 : Int32) 64 <|
      ckb (((4 : Int32) * x1) + x2) 2080 <|
      nm (wl s4 4 (((4 : Int32) * x1) + x2) (gb s4 6 ((0 : Int32)).toNatClampNeg)) fun s5 =>
      ckb (0 : Int32) 64 <|
      ckb (((4 : Int32) * x1) + x2) 2080 <|
      nm (wz s5 22 (((4 : Int32) * x1) + x2) (ga s5 26 ((0 : Int32)).toNatClampNeg)) fun s6 =>
      k7 s6 x1 (x2 + 1)
    ) else (
      some ((0 : Int32), s4)
    )
  )
def f_M_findGroup_7 (N : Nat) : Nat → St → Int32 → Int32 → Option (Int32 × St)
  | 0 => fun _ _ _ => none
  | n + 1 => f_M_findGroup_7_b N (f_M_findGroup_7 N n)
def f_M_findGroup (N : Nat) (σ : St) : Option (Int32 × St) :=
  f_M_findGroup_7 N N σ (gi σ 17) (0 : Int32)
def f_M_putInGroup_147 (N : Nat) (k37 : St → Int32 → Int32 → Int32 → Option (Unit × St)) (σ : St) (x1 : Int32) (x2 : Int32) (x3 : Int32) : Option (Unit × St) :=
  bd (f_M_countsIn N σ x2 x3) fun r9 s10 =>
  if r9 = 0 then (
    k37 s10 x1 x2 (x3 + 1)
  ) else (
    ckb (((8 : Int32) * x1) + x3) 4160 <|
    ckb (0 : Int32) 64 <|
    ckb (((8 : Int32) * x1) + x3) 4160 <|
    nm (wl s10 5 (((8 : Int32) * x1) + x3) ((gb s10 5 ((((8 : Int32) * x1) + x3)).toNatClampNeg) + (gb s10 6 ((0 : Int32)).toNatClampNeg))) fun s11 =>
    ckb (((8 : Int32) * x1) + x3) 4160 <|
    bd (f_M_size N s11 (gb s11 5 ((((8 : Int32) * x1) + x3)).toNatClampNeg)) fun r12 s13 =>
    if (lg_cmp r12 (1000000000000000 : Int64)) ≤ 0 then (
      k37 s13 x1 x2 (x3 + 1)
    ) else (
      nm (si s13 14 (-21 : Int32)) fun s14 =>
      some ((), s14)
    )
  )
def f_M_putInGroup_37_b (N : Nat) (k37 : St → Int32 → Int32 → Int32 → Option (Unit × St)) (σ : St) (x1 : Int32) (x2 : Int32) (x3 : Int32) : Option (Unit × St) :=
  if (gi σ 2) ≤ x3 then (
    some ((), σ)
  ) else (
    ckb x3 8 <|
    ckb (ga σ 10 (x3).toNatClampNeg) 60 <|
    ckb x3 8 <|
    if (ga σ 23 (x3).toNatClampNeg) = 0 then (
      k37 σ x1 x2 (x3 + 1)
    ) else (
      if ((ga σ 3 ((ga σ 10 (x3).toNatClampNeg)).toNatClampNeg) - (30 : Int32)) = 0 then (
        k37 σ x1 x2 (x3 + 1)
      ) else (
        ckb x3 8 <|
        ckb (ga σ 10 (x3).toNatClampNeg) 60 <|
        bd (f_M_workOut N σ (ga σ 4 ((ga σ 10 (x3).toNatClampNeg)).toNatClampNeg)) fun _ s6 =>
        if (gi s6 14) = 0 then (
          ckb (0 : Int32) 64 <|
          ckb (((8 : Int32) * x2) + x3) 4160 <|
          nm (wl s6 3 (((8 : Int32) * x2) + x3) (gb s6 6 ((0 : Int32)).toNatClampNeg)) fun s7 =>
          ckb (0 : Int32) 64 <|
          ckb (((8 : Int32) * x2) + x3) 4160 <|
          nm (wz s7 21 (((8 : Int32) * x2) + x3) (ga s7 26 ((0 : Int32)).toNatClampNeg)) fun s8 =>
          if ((ga σ 3 ((ga σ 10 (x3).toNatClampNeg)).toNatClampNeg) - (30 : Int32)) = (2 : Int32) then (
            f_M_putInGroup_147 N k37 s8 x1 x2 x3
          ) else (
            if ((ga σ 3 ((ga σ 10 (x3).toNatClampNeg)).toNatClampNeg) - (30 : Int32)) = (5 : Int32) then (
              f_M_putInGroup_147 N k37 s8 x1 x2 x3
            ) else (
              k37 s8 x1 x2 (x3 + 1)
            )
          )
        ) else (
          some ((), s6)
        )
      )
    )
  )
def f_M_putInGroup_37 (N : Nat) : Nat → St → Int32 → Int32 → Int32 → Option (Unit × St)
  | 0 => fun _ _ _ _ => none
  | n + 1 => f_M_putInGroup_37_b N (f_M_putInGroup_37 N n)
def f_M_putInGroup (N : Nat) (σ : St) : Option (Unit × St) :=
  bd (f_M_findGroup N σ) fun r1 s2 =>
  if (gi s2 14) = 0 then (
    ckb (gi s2 16) 520 <|
    nm (wa s2 20 (gi s2 16) r1) fun s3 =>
    nm (si s3 16 ((gi s3 16) + (1 : Int32))) fun s4 =>
    f_M_putInGroup_37 N N s4 r1 (gi s2 16) (0 : Int32)
  ) else (
    some ((), s2)
  )
def f_M_isTrue (N : Nat) (σ : St) (x1 : Int32) : Option (Int32 × St) :=
  bd (f_M_workOut N σ x1) fun _ s2 =>
  if (gi s2 14) = 0 then (
    ckb (0 : Int32) 64 <|
    if (lg_cmp (gb s2 6 ((0 : Int32)).toNatClampNeg) (1 : Int64)) = 0 then (
      some ((1 : Int32), s2)
    ) else (
      some ((0 : Int32), s2)
    )
  ) else (
    some ((0 : Int32), s2)
  )
def f_M_goTogether_25 (N : Nat) (σ : St) : Option (Unit × St) :=
  if (gi σ 14) = 0 then (
    if (gi σ 15) = 0 then (
      bd (f_M_giveRow N σ) fun _ s2 =>
      some ((), s2)
    ) else (
      bd (f_M_putInGroup N σ) fun _ s4 =>
      some ((), s4)
    )
  ) else (
    some ((), σ)
  )
def f_M_goTogether (N : Nat) (σ : St) : Option (Unit × St) :=
  if (gi σ 14) = 0 then (
    if (gi σ 4) < 0 then (
      f_M_goTogether_25 N σ
    ) else (
      bd (f_M_isTrue N σ (gi σ 4)) fun r5 s6 =>
      if r5 = 0 then (
        some ((), s6)
      ) else (
        f_M_goTogether_25 N s6
      )
    )
  ) else (
    some ((), σ)
  )
def f_M_goes (N : Nat) (σ : St) (x1 : Int32) : Option (Int32 × St) :=
  ckb x1 3 <|
  if (ga σ 12 (x1).toNatClampNeg) = 0 then (
    some ((1 : Int32), σ)
  ) else (
    ckb x1 3 <|
    bd (f_M_isTrue N σ (ga σ 13 (x1).toNatClampNeg)) fun r1 s2 =>
    if r1 = 0 then (
      some ((0 : Int32), s2)
    ) else (
      some ((1 : Int32), s2)
    )
  )
def f_M_goThird_66 (N : Nat) (σ : St) (x1 : Int32) : Option (Unit × St) :=
  if x1 = 0 then (
    ckb (2 : Int32) 3 <|
    if (ga σ 12 ((2 : Int32)).toNatClampNeg) = (2 : Int32) then (
      if (gi σ 14) = 0 then (
        ckb (2 : Int32) 3 <|
        nm (wa σ 19 (2 : Int32) (-1 : Int32)) fun s1 =>
        bd (f_M_goTogether N s1) fun _ s3 =>
        some ((), s3)
      ) else (
        some ((), σ)
      )
    ) else (
      some ((), σ)
    )
  ) else (
    some ((), σ)
  )
def f_M_goThird_17_b (N : Nat) (k17 : St → Int32 → Int32 → Option (Unit × St)) (σ : St) (x1 : Int32) (x2 : Int32) : Option (Unit × St) :=
  ckb (2 : Int32) 3 <|
  ckb (ga σ 11 ((2 : Int32)).toNatClampNeg) 6 <|
  if (ga σ 1 ((ga σ 11 ((2 : Int32)).toNatClampNeg)).toNatClampNeg) ≤ x2 then (
    f_M_goThird_66 N σ x1
  ) else (
    if (gi σ 14) = 0 then (
      ckb (2 : Int32) 3 <|
      nm (wa σ 19 (2 : Int32) x2) fun s4 =>
      bd (f_M_goes N s4 (2 : Int32)) fun r5 s6 =>
      if r5 = 0 then (
        k17 s6 x1 (x2 + 1)
      ) else (
        bd (f_M_goTogether N s6) fun _ s8 =>
        k17 s8 (1 : Int32) (x2 + 1)
      )
    ) else (
      f_M_goThird_66 N σ x1
    )
  )
def f_M_goThird_17 (N : Nat) : Nat → St → Int32 → Int32 → Option (Unit × St)
  | 0 => fun _ _ _ => none
  | n + 1 => f_M_goThird_17_b N (f_M_goThird_17 N n)
def f_M_goThird (N : Nat) (σ : St) : Option (Unit × St) :=
  if (3 : Int32) ≤ (gi σ 3) then (
    f_M_goThird_17 N N σ (0 : Int32) (0 : Int32)
  ) else (
    bd (f_M_goTogether N σ) fun _ s10 =>
    some ((), s10)
  )
def f_M_goSecond_66 (N : Nat) (σ : St) (x1 : Int32) : Option (Unit × St) :=
  if x1 = 0 then (
    ckb (1 : Int32) 3 <|
    if (ga σ 12 ((1 : Int32)).toNatClampNeg) = (2 : Int32) then (
      if (gi σ 14) = 0 then (
        ckb (1 : Int32) 3 <|
        nm (wa σ 19 (1 : Int32) (-1 : Int32)) fun s1 =>
        bd (f_M_goThird N s1) fun _ s3 =>
        some ((), s3)
      ) else (
        some ((), σ)
      )
    ) else (
      some ((), σ)
    )
  ) else (
    some ((), σ)
  )
def f_M_goSecond_17_b (N : Nat) (k17 : St → Int32 → Int32 → Option (Unit × St)) (σ : St) (x1 : Int32) (x2 : Int32) : Option (Unit × St) :=
  ckb (1 : Int32) 3 <|
  ckb (ga σ 11 ((1 : Int32)).toNatClampNeg) 6 <|
  if (ga σ 1 ((ga σ 11 ((1 : Int32)).toNatClampNeg)).toNatClampNeg) ≤ x2 then (
    f_M_goSecond_66 N σ x1
  ) else (
    if (gi σ 14) = 0 then (
      ckb (1 : Int32) 3 <|
      nm (wa σ 19 (1 : Int32) x2) fun s4 =>
      bd (f_M_goes N s4 (1 : Int32)) fun r5 s6 =>
      if r5 = 0 then (
        k17 s6 x1 (x2 + 1)
      ) else (
        bd (f_M_goThird N s6) fun _ s8 =>
        k17 s8 (1 : Int32) (x2 + 1)
      )
    ) else (
      f_M_goSecond_66 N σ x1
    )
  )
def f_M_goSecond_17 (N : Nat) : Nat → St → Int32 → Int32 → Option (Unit × St)
  | 0 => fun _ _ _ => none
  | n + 1 => f_M_goSecond_17_b N (f_M_goSecond_17 N n)
def f_M_goSecond (N : Nat) (σ : St) : Option (Unit × St) :=
  if (2 : Int32) ≤ (gi σ 3) then (
    f_M_goSecond_17 N N σ (0 : Int32) (0 : Int32)
  ) else (
    bd (f_M_goTogether N σ) fun _ s10 =>
    some ((), s10)
  )
def f_M_goFirst_2_b (N : Nat) (k2 : St → Int32 → Option (Unit × St)) (σ : St) (x1 : Int32) : Option (Unit × St) :=
  ckb (0 : Int32) 3 <|
  ckb (ga σ 11 ((0 : Int32)).toNatClampNeg) 6 <|
  if (ga σ 1 ((ga σ 11 ((0 : Int32)).toNatClampNeg)).toNatClampNeg) ≤ x1 then (
    some ((), σ)
  ) else (
    if (gi σ 14) = 0 then (
      ckb (0 : Int32) 3 <|
      nm (wa σ 19 (0 : Int32) x1) fun s1 =>
      bd (f_M_goSecond N s1) fun _ s3 =>
      k2 s3 (x1 + 1)
    ) else (
      some ((), σ)
    )
  )
def f_M_goFirst_2 (N : Nat) : Nat → St → Int32 → Option (Unit × St)
  | 0 => fun _ _ => none
  | n + 1 => f_M_goFirst_2_b N (f_M_goFirst_2 N n)
def f_M_goFirst (N : Nat) (σ : St) : Option (Unit × St) :=
  f_M_goFirst_2 N N σ (0 : Int32)
def f_M_moveRow_2_b (N : Nat) (k2 : St → Int32 → Int32 → Int32 → Option (Unit × St)) (σ : St) (x1 : Int32) (x2 : Int32) (x3 : Int32) : Option (Unit × St) :=
  if (gi σ 7) ≤ x3 then (
    some ((), σ)
  ) else (
    ckb (((6 : Int32) * x2) + x3) 1206 <|
    ckb (((6 : Int32) * x1) + x3) 1206 <|
    nm (wl σ 2 (((6 : Int32) * x1) + x3) (gb σ 2 ((((6 : Int32) * x2) + x3)).toNatClampNeg)) fun s1 =>
    ckb (((6 : Int32) * x2) + x3) 1206 <|
    ckb (((6 : Int32) * x1) + x3) 1206 <|
    nm (wz s1 18 (((6 : Int32) * x1) + x3) (ga s1 18 ((((6 : Int32) * x2) + x3)).toNatClampNeg)) fun s2 =>
    k2 s2 x1 x2 (x3 + 1)
  )
def f_M_moveRow_2 (N : Nat) : Nat → St → Int32 → Int32 → Int32 → Option (Unit × St)
  | 0 => fun _ _ _ _ => none
  | n + 1 => f_M_moveRow_2_b N (f_M_moveRow_2 N n)
def f_M_moveRow (N : Nat) (σ : St) (x1 : Int32) (x2 : Int32) : Option (Unit × St) :=
  f_M_moveRow_2 N N σ x1 x2 (0 : Int32)
def f_M_isBefore_172 (N : Nat) (σ : St) (x3 : Int32) (x6 : Int32) (x7 : Int32) : Option (Int32 × St) :=
  ckb x3 4 <|
  if (ga σ 17 (x3).toNatClampNeg) = 0 then (
    ckt x6 <|
    some (x6, σ)
  ) else (
    ckt x7 <|
    some (x7, σ)
  )
def f_M_isBefore_160 (N : Nat) (k2 : St → Int32 → Int32 → Int32 → Option (Int32 × St)) (σ : St) (x1 : Int32) (x2 : Int32) (x3 : Int32) (x6 : Int32) (t0 : Int32) : Option (Int32 × St) :=
  if x6 = 0 then (
    if t0 = 0 then (
      k2 σ x1 x2 (x3 + 1)
    ) else (
      f_M_isBefore_172 N σ x3 x6 t0
    )
  ) else (
    f_M_isBefore_172 N σ x3 x6 t0
  )
def f_M_isBefore_159 (N : Nat) (k2 : St → Int32 → Int32 → Int32 → Option (Int32 × St)) (σ : St) (x1 : Int32) (x2 : Int32) (x3 : Int32) (x6 : Int32) : Option (Int32 × St) :=
  f_M_isBefore_160 N k2 σ x1 x2 x3 x6 (0 : Int32)
def f_M_isBefore_97 (N : Nat) (k2 : St → Int32 → Int32 → Int32 → Option (Int32 × St)) (σ : St) (x1 : Int32) (x2 : Int32) (x3 : Int32) (x4 : Int32) (x5 : Int32) (t0 : Int32) : Option (Int32 × St) :=
  ckb x5 1206 <|
  if (ga σ 18 (x5).toNatClampNeg) = 0 then (
    ckb x4 1206 <|
    if (ga σ 18 (x4).toNatClampNeg) = 0 then (
      ckb x5 1206 <|
      ckb x4 1206 <|
      if 0 ≤ (lg_cmp (gb σ 2 (x5).toNatClampNeg) (gb σ 2 (x4).toNatClampNeg)) then (
        f_M_isBefore_159 N k2 σ x1 x2 x3 t0
      ) else (
        f_M_isBefore_160 N k2 σ x1 x2 x3 t0 (1 : Int32)
      )
    ) else (
      f_M_isBefore_159 N k2 σ x1 x2 x3 t0
    )
  ) else (
    ckb x4 1206 <|
    if (ga σ 18 (x4).toNatClampNeg) = 0 then (
      f_M_isBefore_160 N k2 σ x1 x2 x3 t0 (1 : Int32)
    ) else (
      f_M_isBefore_160 N k2 σ x1 x2 x3 t0 (0 : Int32)
    )
  )
def f_M_isBefore_96 (N : Nat) (k2 : St → Int32 → Int32 → Int32 → Option (Int32 × St)) (σ : St) (x1 : Int32) (x2 : Int32) (x3 : Int32) (x4 : Int32) (x5 : Int32) : Option (Int32 × St) :=
  f_M_isBefore_97 N k2 σ x1 x2 x3 x4 x5 (0 : Int32)
def f_M_isBefore_2_b (N : Nat) (k2 : St → Int32 → Int32 → Int32 → Option (Int32 × St)) (σ : St) (x1 : Int32) (x2 : Int32) (x3 : Int32) : Option (Int32 × St) :=
  if (gi σ 8) ≤ x3 then (
    some ((0 : Int32), σ)
  ) else (
    ckb x3 4 <|
    ckb x3 4 <|
    ckb (((6 : Int32) * x1) + (ga σ 16 (x3).toNatClampNeg)) 1206 <|
    if (ga σ 18 ((((6 : Int32) * x1) + (ga σ 16 (x3).toNatClampNeg))).toNatClampNeg) = 0 then (
      ckb (((6 : Int32) * x2) + (ga σ 16 (x3).toNatClampNeg)) 1206 <|
      if (ga σ 18 ((((6 : Int32) * x2) + (ga σ 16 (x3).toNatClampNeg))).toNatClampNeg) = 0 then (
        ckb (((6 : Int32) * x1) + (ga σ 16 (x3).toNatClampNeg)) 1206 <|
        ckb (((6 : Int32) * x2) + (ga σ 16 (x3).toNatClampNeg)) 1206 <|
        if 0 ≤ (lg_cmp (gb σ 2 ((((6 : Int32) * x1) + (ga σ 16 (x3).toNatClampNeg))).toNatClampNeg) (gb σ 2 ((((6 : Int32) * x2) + (ga σ 16 (x3).toNatClampNeg))).toNatClampNeg)) then (
          f_M_isBefore_96 N k2 σ x1 x2 x3 (((6 : Int32) * x1) + (ga σ 16 (x3).toNatClampNeg)) (((6 : Int32) * x2) + (ga σ 16 (x3).toNatClampNeg))
        ) else (
          f_M_isBefore_97 N k2 σ x1 x2 x3 (((6 : Int32) * x1) + (ga σ 16 (x3).toNatClampNeg)) (((6 : Int32) * x2) + (ga σ 16 (x3).toNatClampNeg)) (1 : Int32)
        )
      ) else (
        f_M_isBefore_96 N k2 σ x1 x2 x3 (((6 : Int32) * x1) + (ga σ 16 (x3).toNatClampNeg)) (((6 : Int32) * x2) + (ga σ 16 (x3).toNatClampNeg))
      )
    ) else (
      ckb (((6 : Int32) * x2) + (ga σ 16 (x3).toNatClampNeg)) 1206 <|
      if (ga σ 18 ((((6 : Int32) * x2) + (ga σ 16 (x3).toNatClampNeg))).toNatClampNeg) = 0 then (
        f_M_isBefore_97 N k2 σ x1 x2 x3 (((6 : Int32) * x1) + (ga σ 16 (x3).toNatClampNeg)) (((6 : Int32) * x2) + (ga σ 16 (x3).toNatClampNeg)) (1 : Int32)
      ) else (
        f_M_isBefore_97 N k2 σ x1 x2 x3 (((6 : Int32) * x1) + (ga σ 16 (x3).toNatClampNeg)) (((6 : Int32) * x2) + (ga σ 16 (x3).toNatClampNeg)) (0 : Int32)
      )
    )
  )
def f_M_isBefore_2 (N : Nat) : Nat → St → Int32 → Int32 → Int32 → Option (Int32 × St)
  | 0 => fun _ _ _ _ => none
  | n + 1 => f_M_isBefore_2_b N (f_M_isBefore_2 N n)
def f_M_isBefore (N : Nat) (σ : St) (x1 : Int32) (x2 : Int32) : Option (Int32 × St) :=
  f_M_isBefore_2 N N σ x1 x2 (0 : Int32)
def f_M_sort_51 (N : Nat) (k2 : St → Int32 → Option (Unit × St)) (σ : St) (x1 : Int32) (x2 : Int32) : Option (Unit × St) :=
  bd (f_M_moveRow N σ x2 (200 : Int32)) fun _ s4 =>
  k2 s4 (x1 + 1)
def f_M_sort_20_b (N : Nat) (k2 : St → Int32 → Option (Unit × St)) (k20 : St → Int32 → Int32 → Option (Unit × St)) (σ : St) (x1 : Int32) (x2 : Int32) : Option (Unit × St) :=
  if x2 ≤ 0 then (
    f_M_sort_51 N k2 σ x1 x2
  ) else (
    bd (f_M_isBefore N σ (200 : Int32) (x2 - (1 : Int32))) fun r5 s6 =>
    if r5 = 0 then (
      f_M_sort_51 N k2 s6 x1 x2
    ) else (
      bd (f_M_moveRow N s6 x2 (x2 - (1 : Int32))) fun _ s8 =>
      k20 s8 x1 (x2 + Int32.ofInt (-1))
    )
  )
def f_M_sort_20 (N : Nat) (k2 : St → Int32 → Option (Unit × St)) : Nat → St → Int32 → Int32 → Option (Unit × St)
  | 0 => fun _ _ _ => none
  | n + 1 => f_M_sort_20_b N k2 (f_M_sort_20 N k2 n)
def f_M_sort_2_b (N : Nat) (k2 : St → Int32 → Option (Unit × St)) (σ : St) (x1 : Int32) : Option (Unit × St) :=
  if (gi σ 12) ≤ x1 then (
    some ((), σ)
  ) else (
    bd (f_M_moveRow N σ (200 : Int32) x1) fun _ s2 =>
    f_M_sort_20 N k2 N s2 x1 x1
  )
def f_M_sort_2 (N : Nat) : Nat → St → Int32 → Option (Unit × St)
  | 0 => fun _ _ => none
  | n + 1 => f_M_sort_2_b N (f_M_sort_2 N n)
def f_M_sort (N : Nat) (σ : St) : Option (Unit × St) :=
  f_M_sort_2 N N σ (1 : Int32)
def f_M_cut_7_b (N : Nat) (k7 : St → Int32 → Int32 → Option (Unit × St)) (σ : St) (x1 : Int32) (x2 : Int32) : Option (Unit × St) :=
  if (gi σ 12) ≤ x2 then (
    nm (si σ 12 x1) fun s1 =>
    some ((), s1)
  ) else (
    if (gi σ 10) ≤ x1 then (
      nm (si σ 12 x1) fun s2 =>
      some ((), s2)
    ) else (
      bd (f_M_moveRow N σ x1 x2) fun _ s4 =>
      k7 s4 (x1 + 1) (x2 + 1)
    )
  )
def f_M_cut_7 (N : Nat) : Nat → St → Int32 → Int32 → Option (Unit × St)
  | 0 => fun _ _ _ => none
  | n + 1 => f_M_cut_7_b N (f_M_cut_7 N n)
def f_M_cut (N : Nat) (σ : St) : Option (Unit × St) :=
  f_M_cut_7 N N σ (0 : Int32) (gi σ 11)
def f_M_isSameRow_5_b (N : Nat) (k5 : St → Int32 → Int32 → Int32 → Int32 → Option (Int32 × St)) (σ : St) (x1 : Int32) (x2 : Int32) (x3 : Int32) (x4 : Int32) : Option (Int32 × St) :=
  if (gi σ 7) ≤ x4 then (
    ckt x3 <|
    some (x3, σ)
  ) else (
    ckb (((6 : Int32) * x1) + x4) 1206 <|
    if x3 = 0 then (
      k5 σ x1 x2 (0 : Int32) (x4 + 1)
    ) else (
      ckb (((6 : Int32) * x2) + x4) 1206 <|
      if (ga σ 18 ((((6 : Int32) * x1) + x4)).toNatClampNeg) = (ga σ 18 ((((6 : Int32) * x2) + x4)).toNatClampNeg) then (
        if (ga σ 18 ((((6 : Int32) * x1) + x4)).toNatClampNeg) = 0 then (
          ckb (((6 : Int32) * x1) + x4) 1206 <|
          ckb (((6 : Int32) * x2) + x4) 1206 <|
          if (lg_cmp (gb σ 2 ((((6 : Int32) * x1) + x4)).toNatClampNeg) (gb σ 2 ((((6 : Int32) * x2) + x4)).toNatClampNeg)) = 0 then (
            k5 σ x1 x2 (1 : Int32) (x4 + 1)
          ) else (
            k5 σ x1 x2 (0 : Int32) (x4 + 1)
          )
        ) else (
          k5 σ x1 x2 (1 : Int32) (x4 + 1)
        )
      ) else (
        k5 σ x1 x2 (0 : Int32) (x4 + 1)
      )
    )
  )
def f_M_isSameRow_5 (N : Nat) : Nat → St → Int32 → Int32 → Int32 → Int32 → Option (Int32 × St)
  | 0 => fun _ _ _ _ _ => none
  | n + 1 => f_M_isSameRow_5_b N (f_M_isSameRow_5 N n)
def f_M_isSameRow (N : Nat) (σ : St) (x1 : Int32) (x2 : Int32) : Option (Int32 × St) :=
  f_M_isSameRow_5 N N σ x1 x2 (1 : Int32) (0 : Int32)
def f_M_leaveOut_17_b (N : Nat) (k4 : St → Int32 → Int32 → Option (Unit × St)) (k17 : St → Int32 → Int32 → Int32 → Int32 → Option (Unit × St)) (σ : St) (x1 : Int32) (x2 : Int32) (x3 : Int32) (x4 : Int32) : Option (Unit × St) :=
  if x1 ≤ x4 then (
    if x3 = 0 then (
      bd (f_M_moveRow N σ x1 x2) fun _ s3 =>
      k4 s3 (x1 + 1) (x2 + 1)
    ) else (
      k4 σ x1 (x2 + 1)
    )
  ) else (
    if x3 = 0 then (
      bd (f_M_isSameRow N σ x4 x2) fun r4 s5 =>
      if r4 = 0 then (
        k17 s5 x1 x2 (0 : Int32) (x4 + 1)
      ) else (
        k17 s5 x1 x2 (1 : Int32) (x4 + 1)
      )
    ) else (
      k17 σ x1 x2 (1 : Int32) (x4 + 1)
    )
  )
def f_M_leaveOut_17 (N : Nat) (k4 : St → Int32 → Int32 → Option (Unit × St)) : Nat → St → Int32 → Int32 → Int32 → Int32 → Option (Unit × St)
  | 0 => fun _ _ _ _ _ => none
  | n + 1 => f_M_leaveOut_17_b N k4 (f_M_leaveOut_17 N k4 n)
def f_M_leaveOut_4_b (N : Nat) (k4 : St → Int32 → Int32 → Option (Unit × St)) (σ : St) (x1 : Int32) (x2 : Int32) : Option (Unit × St) :=
  if (gi σ 12) ≤ x2 then (
    nm (si σ 12 x1) fun s1 =>
    some ((), s1)
  ) else (
    f_M_leaveOut_17 N k4 N σ x1 x2 (0 : Int32) (0 : Int32)
  )
def f_M_leaveOut_4 (N : Nat) : Nat → St → Int32 → Int32 → Option (Unit × St)
  | 0 => fun _ _ _ => none
  | n + 1 => f_M_leaveOut_4_b N (f_M_leaveOut_4 N n)
def f_M_leaveOut (N : Nat) (σ : St) : Option (Unit × St) :=
  f_M_leaveOut_4 N N σ (0 : Int32) (0 : Int32)
def f_M_goThroughGroups_59 (N : Nat) (k21 : St → Int32 → Option (Unit × St)) (σ : St) (x1 : Int32) : Option (Unit × St) :=
  bd (f_M_giveRow N σ) fun _ s5 =>
  k21 s5 (x1 + 1)
def f_M_goThroughGroups_21_b (N : Nat) (k21 : St → Int32 → Option (Unit × St)) (σ : St) (x1 : Int32) : Option (Unit × St) :=
  if (gi σ 17) ≤ x1 then (
    nm (si σ 18 (-1 : Int32)) fun s1 =>
    some ((), s1)
  ) else (
    if (gi σ 14) = 0 then (
      nm (si σ 18 x1) fun s3 =>
      if (gi s3 5) < 0 then (
        f_M_goThroughGroups_59 N k21 s3 x1
      ) else (
        bd (f_M_isTrue N s3 (gi s3 5)) fun r6 s7 =>
        if r6 = 0 then (
          k21 s7 (x1 + 1)
        ) else (
          f_M_goThroughGroups_59 N k21 s7 x1
        )
      )
    ) else (
      nm (si σ 18 (-1 : Int32)) fun s2 =>
      some ((), s2)
    )
  )
def f_M_goThroughGroups_21 (N : Nat) : Nat → St → Int32 → Option (Unit × St)
  | 0 => fun _ _ => none
  | n + 1 => f_M_goThroughGroups_21_b N (f_M_goThroughGroups_21 N n)
def f_M_goThroughGroups (N : Nat) (σ : St) : Option (Unit × St) :=
  if (gi σ 6) = 0 then (
    if (gi σ 17) = 0 then (
      nm (si σ 17 (1 : Int32)) fun s15 =>
      f_M_goThroughGroups_21 N N s15 (0 : Int32)
    ) else (
      f_M_goThroughGroups_21 N N σ (0 : Int32)
    )
  ) else (
    f_M_goThroughGroups_21 N N σ (0 : Int32)
  )
def f_M_ask_39_b (N : Nat) (k10 : St → Option (Unit × St)) (k39 : St → Int32 → Int32 → Option (Unit × St)) (σ : St) (x2 : Int32) (x3 : Int32) : Option (Unit × St) :=
  if (gi σ 2) ≤ x3 then (
    ckb x2 60 <|
    if (12 : Int32) < (ga σ 3 (x2).toNatClampNeg) then (
      k10 σ
    ) else (
      ckb x2 60 <|
      bd (f_M_push N σ (ga σ 4 (x2).toNatClampNeg)) fun _ s4 =>
      ckb x2 60 <|
      bd (f_M_isTwo N s4 (ga s4 3 (x2).toNatClampNeg)) fun r5 s6 =>
      if r5 = 0 then (
        k10 s6
      ) else (
        ckb x2 60 <|
        bd (f_M_push N s6 (ga s6 5 (x2).toNatClampNeg)) fun _ s8 =>
        k10 s8
      )
    )
  ) else (
    ckb x3 8 <|
    if (ga σ 23 (x3).toNatClampNeg) = 0 then (
      ckb x3 8 <|
      if (ga σ 10 (x3).toNatClampNeg) = x2 then (
        ckb x3 8 <|
        nm (wz σ 23 x3 (1 : Int32)) fun s11 =>
        k39 s11 x2 (x3 + 1)
      ) else (
        ckb x3 8 <|
        nm (wz σ 23 x3 (0 : Int32)) fun s10 =>
        k39 s10 x2 (x3 + 1)
      )
    ) else (
      ckb x3 8 <|
      nm (wz σ 23 x3 (1 : Int32)) fun s9 =>
      k39 s9 x2 (x3 + 1)
    )
  )
def f_M_ask_39 (N : Nat) (k10 : St → Option (Unit × St)) : Nat → St → Int32 → Int32 → Option (Unit × St)
  | 0 => fun _ _ _ => none
  | n + 1 => f_M_ask_39_b N k10 (f_M_ask_39 N k10 n)
def f_M_ask_10_b (N : Nat) (k10 : St → Option (Unit × St)) (σ : St) : Option (Unit × St) :=
  if (gi σ 19) ≤ 0 then (
    some ((), σ)
  ) else (
    nm (si σ 19 ((gi σ 19) - (1 : Int32))) fun s2 =>
    ckb (gi s2 19) 64 <|
    f_M_ask_39 N k10 N s2 (ga s2 24 ((gi s2 19)).toNatClampNeg) (0 : Int32)
  )
def f_M_ask_10 (N : Nat) : Nat → St → Option (Unit × St)
  | 0 => fun _ => none
  | n + 1 => f_M_ask_10_b N (f_M_ask_10 N n)
def f_M_ask (N : Nat) (σ : St) (x1 : Int32) : Option (Unit × St) :=
  nm (si σ 19 (0 : Int32)) fun s1 =>
  bd (f_M_push N s1 x1) fun _ s13 =>
  f_M_ask_10 N N s13
def f_M_isBound_12_b (N : Nat) (k12 : St → Int32 → Option (Int32 × St)) (σ : St) (x2 : Int32) : Option (Int32 × St) :=
  if (gi σ 19) ≤ 0 then (
    ckt x2 <|
    some (x2, σ)
  ) else (
    nm (si σ 19 ((gi σ 19) - (1 : Int32))) fun s2 =>
    ckb (gi s2 19) 64 <|
    ckb (ga s2 24 ((gi s2 19)).toNatClampNeg) 60 <|
    bd (f_M_groupLike N s2 (ga s2 24 ((gi s2 19)).toNatClampNeg)) fun r3 s4 =>
    if 0 ≤ r3 then (
      k12 s4 x2
    ) else (
      if (30 : Int32) ≤ (ga s2 3 ((ga s2 24 ((gi s2 19)).toNatClampNeg)).toNatClampNeg) then (
        k12 s4 x2
      ) else (
        if (ga s2 3 ((ga s2 24 ((gi s2 19)).toNatClampNeg)).toNatClampNeg) = (20 : Int32) then (
          k12 s4 x2
        ) else (
          if (ga s2 3 ((ga s2 24 ((gi s2 19)).toNatClampNeg)).toNatClampNeg) = (21 : Int32) then (
            k12 s4 (0 : Int32)
          ) else (
            ckb (ga s2 24 ((gi s2 19)).toNatClampNeg) 60 <|
            bd (f_M_push N s4 (ga s4 4 ((ga s2 24 ((gi s2 19)).toNatClampNeg)).toNatClampNeg)) fun _ s6 =>
            bd (f_M_isTwo N s6 (ga s2 3 ((ga s2 24 ((gi s2 19)).toNatClampNeg)).toNatClampNeg)) fun r7 s8 =>
            if r7 = 0 then (
              k12 s8 x2
            ) else (
              ckb (ga s2 24 ((gi s2 19)).toNatClampNeg) 60 <|
              bd (f_M_push N s8 (ga s8 5 ((ga s2 24 ((gi s2 19)).toNatClampNeg)).toNatClampNeg)) fun _ s10 =>
              k12 s10 x2
            )
          )
        )
      )
    )
  )
def f_M_isBound_12 (N : Nat) : Nat → St → Int32 → Option (Int32 × St)
  | 0 => fun _ _ => none
  | n + 1 => f_M_isBound_12_b N (f_M_isBound_12 N n)
def f_M_isBound (N : Nat) (σ : St) (x1 : Int32) : Option (Int32 × St) :=
  nm (si σ 19 (0 : Int32)) fun s1 =>
  bd (f_M_push N s1 x1) fun _ s12 =>
  f_M_isBound_12 N N s12 (1 : Int32)
def f_M_areAllBound_26_b (N : Nat) (k26 : St → Int32 → Int32 → Option (Int32 × St)) (σ : St) (x1 : Int32) (x2 : Int32) : Option (Int32 × St) :=
  if (gi σ 7) ≤ x2 then (
    ckt x1 <|
    some (x1, σ)
  ) else (
    if x1 = 0 then (
      k26 σ (0 : Int32) (x2 + 1)
    ) else (
      ckb x2 6 <|
      bd (f_M_isBound N σ (ga σ 15 (x2).toNatClampNeg)) fun r1 s2 =>
      if r1 = 0 then (
        k26 s2 (0 : Int32) (x2 + 1)
      ) else (
        k26 s2 (1 : Int32) (x2 + 1)
      )
    )
  )
def f_M_areAllBound_26 (N : Nat) : Nat → St → Int32 → Int32 → Option (Int32 × St)
  | 0 => fun _ _ _ => none
  | n + 1 => f_M_areAllBound_26_b N (f_M_areAllBound_26 N n)
def f_M_areAllBound (N : Nat) (σ : St) : Option (Int32 × St) :=
  if (gi σ 5) < 0 then (
    f_M_areAllBound_26 N N σ (1 : Int32) (0 : Int32)
  ) else (
    bd (f_M_isBound N σ (gi σ 5)) fun r3 s4 =>
    if r3 = 0 then (
      f_M_areAllBound_26 N N s4 (0 : Int32) (0 : Int32)
    ) else (
      f_M_areAllBound_26 N N s4 (1 : Int32) (0 : Int32)
    )
  )
def f_M_areAggregatesRight_76_b (N : Nat) (k76 : St → Int32 → Int32 → Option (Int32 × St)) (σ : St) (x1 : Int32) (x2 : Int32) : Option (Int32 × St) :=
  if (gi σ 6) ≤ x2 then (
    ckt x1 <|
    some (x1, σ)
  ) else (
    if x1 = 0 then (
      k76 σ (0 : Int32) (x2 + 1)
    ) else (
      ckb x2 4 <|
      ckb (ga σ 14 (x2).toNatClampNeg) 60 <|
      if (ga σ 8 ((ga σ 14 (x2).toNatClampNeg)).toNatClampNeg) = 0 then (
        k76 σ (1 : Int32) (x2 + 1)
      ) else (
        k76 σ (0 : Int32) (x2 + 1)
      )
    )
  )
def f_M_areAggregatesRight_76 (N : Nat) : Nat → St → Int32 → Int32 → Option (Int32 × St)
  | 0 => fun _ _ _ => none
  | n + 1 => f_M_areAggregatesRight_76_b N (f_M_areAggregatesRight_76 N n)
def f_M_areAggregatesRight_27_b (N : Nat) (k27 : St → Int32 → Int32 → Option (Int32 × St)) (σ : St) (x1 : Int32) (x2 : Int32) : Option (Int32 × St) :=
  if (gi σ 3) ≤ x2 then (
    f_M_areAggregatesRight_76 N N σ x1 (0 : Int32)
  ) else (
    if x1 = 0 then (
      k27 σ (0 : Int32) (x2 + 1)
    ) else (
      ckb x2 3 <|
      if (ga σ 12 (x2).toNatClampNeg) = 0 then (
        k27 σ (1 : Int32) (x2 + 1)
      ) else (
        ckb x2 3 <|
        ckb (ga σ 13 (x2).toNatClampNeg) 60 <|
        if (ga σ 8 ((ga σ 13 (x2).toNatClampNeg)).toNatClampNeg) = 0 then (
          k27 σ (1 : Int32) (x2 + 1)
        ) else (
          k27 σ (0 : Int32) (x2 + 1)
        )
      )
    )
  )
def f_M_areAggregatesRight_27 (N : Nat) : Nat → St → Int32 → Int32 → Option (Int32 × St)
  | 0 => fun _ _ _ => none
  | n + 1 => f_M_areAggregatesRight_27_b N (f_M_areAggregatesRight_27 N n)
def f_M_areAggregatesRight (N : Nat) (σ : St) : Option (Int32 × St) :=
  if (gi σ 4) < 0 then (
    f_M_areAggregatesRight_27 N N σ (1 : Int32) (0 : Int32)
  ) else (
    ckb (gi σ 4) 60 <|
    if (ga σ 8 ((gi σ 4)).toNatClampNeg) = 0 then (
      f_M_areAggregatesRight_27 N N σ (1 : Int32) (0 : Int32)
    ) else (
      f_M_areAggregatesRight_27 N N σ (0 : Int32) (0 : Int32)
    )
  )
def f_M_hasColumns_12_b (N : Nat) (k12 : St → Int32 → Int32 → Option (Int32 × St)) (σ : St) (x2 : Int32) (x3 : Int32) : Option (Int32 × St) :=
  if (gi σ 19) ≤ 0 then (
    ckt x3 <|
    some (x3, σ)
  ) else (
    nm (si σ 19 ((gi σ 19) - (1 : Int32))) fun s2 =>
    ckb (gi s2 19) 64 <|
    ckb (ga s2 24 ((gi s2 19)).toNatClampNeg) 60 <|
    if (ga s2 3 ((ga s2 24 ((gi s2 19)).toNatClampNeg)).toNatClampNeg) = (21 : Int32) then (
      if x3 = 0 then (
        k12 s2 x2 (0 : Int32)
      ) else (
        ckb (ga s2 24 ((gi s2 19)).toNatClampNeg) 60 <|
        if x2 < (ga s2 4 ((ga s2 24 ((gi s2 19)).toNatClampNeg)).toNatClampNeg) then (
          k12 s2 x2 (0 : Int32)
        ) else (
          ckb (ga s2 24 ((gi s2 19)).toNatClampNeg) 60 <|
          ckb (ga s2 24 ((gi s2 19)).toNatClampNeg) 60 <|
          ckb (ga s2 4 ((ga s2 24 ((gi s2 19)).toNatClampNeg)).toNatClampNeg) 3 <|
          ckb (ga s2 11 ((ga s2 4 ((ga s2 24 ((gi s2 19)).toNatClampNeg)).toNatClampNeg)).toNatClampNeg) 6 <|
          if (ga s2 0 ((ga s2 11 ((ga s2 4 ((ga s2 24 ((gi s2 19)).toNatClampNeg)).toNatClampNeg)).toNatClampNeg)).toNatClampNeg) ≤ (ga s2 5 ((ga s2 24 ((gi s2 19)).toNatClampNeg)).toNatClampNeg) then (
            k12 s2 x2 (0 : Int32)
          ) else (
            k12 s2 x2 (1 : Int32)
          )
        )
      )
    ) else (
      if (ga s2 3 ((ga s2 24 ((gi s2 19)).toNatClampNeg)).toNatClampNeg) = (20 : Int32) then (
        k12 s2 x2 x3
      ) else (
        ckb (ga s2 24 ((gi s2 19)).toNatClampNeg) 60 <|
        bd (f_M_push N s2 (ga s2 4 ((ga s2 24 ((gi s2 19)).toNatClampNeg)).toNatClampNeg)) fun _ s4 =>
        bd (f_M_isTwo N s4 (ga s2 3 ((ga s2 24 ((gi s2 19)).toNatClampNeg)).toNatClampNeg)) fun r5 s6 =>
        if r5 = 0 then (
          k12 s6 x2 x3
        ) else (
          ckb (ga s2 24 ((gi s2 19)).toNatClampNeg) 60 <|
          bd (f_M_push N s6 (ga s6 5 ((ga s2 24 ((gi s2 19)).toNatClampNeg)).toNatClampNeg)) fun _ s8 =>
          k12 s8 x2 x3
        )
      )
    )
  )
def f_M_hasColumns_12 (N : Nat) : Nat → St → Int32 → Int32 → Option (Int32 × St)
  | 0 => fun _ _ _ => none
  | n + 1 => f_M_hasColumns_12_b N (f_M_hasColumns_12 N n)
def f_M_hasColumns (N : Nat) (σ : St) (x1 : Int32) (x2 : Int32) : Option (Int32 × St) :=
  nm (si σ 19 (0 : Int32)) fun s1 =>
  bd (f_M_push N s1 x1) fun _ s10 =>
  f_M_hasColumns_12 N N s10 x2 (1 : Int32)
def f_M_areColumnsRight_156_b (N : Nat) (k156 : St → Int32 → Int32 → Option (Int32 × St)) (σ : St) (x1 : Int32) (x2 : Int32) : Option (Int32 × St) :=
  if (gi σ 7) ≤ x2 then (
    ckt x1 <|
    some (x1, σ)
  ) else (
    if x1 = 0 then (
      k156 σ (0 : Int32) (x2 + 1)
    ) else (
      ckb x2 6 <|
      bd (f_M_hasColumns N σ (ga σ 15 (x2).toNatClampNeg) ((gi σ 3) - (1 : Int32))) fun r1 s2 =>
      if r1 = 0 then (
        k156 s2 (0 : Int32) (x2 + 1)
      ) else (
        k156 s2 (1 : Int32) (x2 + 1)
      )
    )
  )
def f_M_areColumnsRight_156 (N : Nat) : Nat → St → Int32 → Int32 → Option (Int32 × St)
  | 0 => fun _ _ _ => none
  | n + 1 => f_M_areColumnsRight_156_b N (f_M_areColumnsRight_156 N n)
def f_M_areColumnsRight_111_b (N : Nat) (k111 : St → Int32 → Int32 → Option (Int32 × St)) (σ : St) (x1 : Int32) (x2 : Int32) : Option (Int32 × St) :=
  if (gi σ 6) ≤ x2 then (
    f_M_areColumnsRight_156 N N σ x1 (0 : Int32)
  ) else (
    if x1 = 0 then (
      k111 σ (0 : Int32) (x2 + 1)
    ) else (
      ckb x2 4 <|
      bd (f_M_hasColumns N σ (ga σ 14 (x2).toNatClampNeg) ((gi σ 3) - (1 : Int32))) fun r3 s4 =>
      if r3 = 0 then (
        k111 s4 (0 : Int32) (x2 + 1)
      ) else (
        k111 s4 (1 : Int32) (x2 + 1)
      )
    )
  )
def f_M_areColumnsRight_111 (N : Nat) : Nat → St → Int32 → Int32 → Option (Int32 × St)
  | 0 => fun _ _ _ => none
  | n + 1 => f_M_areColumnsRight_111_b N (f_M_areColumnsRight_111 N n)
def f_M_areColumnsRight_79 (N : Nat) (σ : St) : Option (Int32 × St) :=
  if (gi σ 5) < 0 then (
    f_M_areColumnsRight_111 N N σ (1 : Int32) (0 : Int32)
  ) else (
    bd (f_M_hasColumns N σ (gi σ 5) ((gi σ 3) - (1 : Int32))) fun r9 s10 =>
    if r9 = 0 then (
      f_M_areColumnsRight_111 N N s10 (0 : Int32) (0 : Int32)
    ) else (
      f_M_areColumnsRight_111 N N s10 (1 : Int32) (0 : Int32)
    )
  )
def f_M_areColumnsRight_4_b (N : Nat) (k4 : St → Int32 → Int32 → Option (Int32 × St)) (σ : St) (x1 : Int32) (x2 : Int32) : Option (Int32 × St) :=
  if (gi σ 3) ≤ x2 then (
    if x1 = 0 then (
      f_M_areColumnsRight_111 N N σ (0 : Int32) (0 : Int32)
    ) else (
      if (gi σ 4) < 0 then (
        f_M_areColumnsRight_79 N σ
      ) else (
        bd (f_M_hasColumns N σ (gi σ 4) ((gi σ 3) - (1 : Int32))) fun r19 s20 =>
        if r19 = 0 then (
          f_M_areColumnsRight_111 N N s20 (0 : Int32) (0 : Int32)
        ) else (
          f_M_areColumnsRight_79 N s20
        )
      )
    )
  ) else (
    if x1 = 0 then (
      k4 σ (0 : Int32) (x2 + 1)
    ) else (
      ckb x2 3 <|
      if (ga σ 12 (x2).toNatClampNeg) = 0 then (
        k4 σ (1 : Int32) (x2 + 1)
      ) else (
        ckb x2 3 <|
        bd (f_M_hasColumns N σ (ga σ 13 (x2).toNatClampNeg) x2) fun r25 s26 =>
        if r25 = 0 then (
          k4 s26 (0 : Int32) (x2 + 1)
        ) else (
          k4 s26 (1 : Int32) (x2 + 1)
        )
      )
    )
  )
def f_M_areColumnsRight_4 (N : Nat) : Nat → St → Int32 → Int32 → Option (Int32 × St)
  | 0 => fun _ _ _ => none
  | n + 1 => f_M_areColumnsRight_4_b N (f_M_areColumnsRight_4 N n)
def f_M_areColumnsRight (N : Nat) (σ : St) : Option (Int32 × St) :=
  f_M_areColumnsRight_4 N N σ (1 : Int32) (0 : Int32)
def f_M_run_329 (N : Nat) (σ : St) : Option (Int32 × St) :=
  bd (f_M_sort N σ) fun _ s14 =>
  bd (f_M_cut N s14) fun _ s16 =>
  nm (si s16 13 (gi s16 7)) fun s17 =>
  some ((gi s17 12), s17)
def f_M_run_301 (N : Nat) (σ : St) : Option (Int32 × St) :=
  if (gi σ 14) = 0 then (
    if (gi σ 9) = 0 then (
      f_M_run_329 N σ
    ) else (
      bd (f_M_leaveOut N σ) fun _ s19 =>
      f_M_run_329 N s19
    )
  ) else (
    nm (si σ 12 (0 : Int32)) fun s20 =>
    some ((gi s20 14), s20)
  )
def f_M_run_240_b (N : Nat) (k240 : St → Int32 → Option (Int32 × St)) (σ : St) (x1 : Int32) : Option (Int32 × St) :=
  if (gi σ 7) ≤ x1 then (
    nm (si σ 16 (0 : Int32)) fun s8 =>
    nm (si s8 17 (0 : Int32)) fun s9 =>
    nm (si s9 18 (-1 : Int32)) fun s10 =>
    bd (f_M_goFirst N s10) fun _ s12 =>
    if (gi s12 15) = 0 then (
      f_M_run_301 N s12
    ) else (
      if (gi s12 14) = 0 then (
        bd (f_M_goThroughGroups N s12) fun _ s22 =>
        f_M_run_301 N s22
      ) else (
        f_M_run_301 N s12
      )
    )
  ) else (
    ckb x1 6 <|
    bd (f_M_ask N σ (ga σ 15 (x1).toNatClampNeg)) fun _ s24 =>
    k240 s24 (x1 + 1)
  )
def f_M_run_240 (N : Nat) : Nat → St → Int32 → Option (Int32 × St)
  | 0 => fun _ _ => none
  | n + 1 => f_M_run_240_b N (f_M_run_240 N n)
def f_M_run_204_b (N : Nat) (k204 : St → Int32 → Option (Int32 × St)) (σ : St) (x1 : Int32) : Option (Int32 × St) :=
  if (8 : Int32) ≤ x1 then (
    if (gi σ 5) < 0 then (
      f_M_run_240 N N σ (0 : Int32)
    ) else (
      bd (f_M_ask N σ (gi σ 5)) fun _ s26 =>
      f_M_run_240 N N s26 (0 : Int32)
    )
  ) else (
    ckb x1 8 <|
    nm (wz σ 23 x1 (0 : Int32)) fun s44 =>
    k204 s44 (x1 + 1)
  )
def f_M_run_204 (N : Nat) : Nat → St → Int32 → Option (Int32 × St)
  | 0 => fun _ _ => none
  | n + 1 => f_M_run_204_b N (f_M_run_204 N n)
def f_M_run_187 (N : Nat) (σ : St) (t0 : Int32) : Option (Int32 × St) :=
  nm (si σ 14 t0) fun s7 =>
  if (gi s7 14) = 0 then (
    f_M_run_204 N N s7 (0 : Int32)
  ) else (
    some ((gi s7 14), s7)
  )
def f_M_run_183 (N : Nat) (σ : St) : Option (Int32 × St) :=
  f_M_run_187 N σ (gi σ 14)
def f_M_run_112_b (N : Nat) (k112 : St → Int32 → Option (Int32 × St)) (σ : St) (x1 : Int32) : Option (Int32 × St) :=
  if (gi σ 7) ≤ x1 then (
    if (gi σ 14) = 0 then (
      if (gi σ 15) = 0 then (
        f_M_run_183 N σ
      ) else (
        bd (f_M_areAllBound N σ) fun r45 s46 =>
        if r45 = 0 then (
          f_M_run_187 N s46 (-13 : Int32)
        ) else (
          f_M_run_183 N s46
        )
      )
    ) else (
      f_M_run_183 N σ
    )
  ) else (
    if (gi σ 15) = 0 then (
      ckb x1 6 <|
      ckb (ga σ 15 (x1).toNatClampNeg) 60 <|
      if (ga σ 8 ((ga σ 15 (x1).toNatClampNeg)).toNatClampNeg) = 0 then (
        nm (si σ 15 (0 : Int32)) fun s48 =>
        k112 s48 (x1 + 1)
      ) else (
        nm (si σ 15 (1 : Int32)) fun s49 =>
        k112 s49 (x1 + 1)
      )
    ) else (
      nm (si σ 15 (1 : Int32)) fun s47 =>
      k112 s47 (x1 + 1)
    )
  )
def f_M_run_112 (N : Nat) : Nat → St → Int32 → Option (Int32 × St)
  | 0 => fun _ _ => none
  | n + 1 => f_M_run_112_b N (f_M_run_112 N n)
def f_M_run_84 (N : Nat) (σ : St) (t0 : Int32) : Option (Int32 × St) :=
  nm (si σ 14 t0) fun s5 =>
  if 0 < (gi s5 6) then (
    nm (si s5 15 (1 : Int32)) fun s6 =>
    f_M_run_112 N N s6 (0 : Int32)
  ) else (
    if (gi s5 5) < 0 then (
      nm (si s5 15 (0 : Int32)) fun s50 =>
      f_M_run_112 N N s50 (0 : Int32)
    ) else (
      nm (si s5 15 (1 : Int32)) fun s94 =>
      f_M_run_112 N N s94 (0 : Int32)
    )
  )
def f_M_run_80 (N : Nat) (σ : St) : Option (Int32 × St) :=
  f_M_run_84 N σ (gi σ 14)
def f_M_run_57 (N : Nat) (σ : St) (t0 : Int32) : Option (Int32 × St) :=
  nm (si σ 14 t0) fun s4 =>
  if (gi s4 14) = 0 then (
    bd (f_M_areAggregatesRight N s4) fun r138 s139 =>
    if r138 = 0 then (
      f_M_run_84 N s139 (-12 : Int32)
    ) else (
      f_M_run_80 N s139
    )
  ) else (
    f_M_run_80 N s4
  )
def f_M_run_53 (N : Nat) (σ : St) : Option (Int32 × St) :=
  f_M_run_57 N σ (gi σ 14)
def f_M_run_30 (N : Nat) (σ : St) (t0 : Int32) : Option (Int32 × St) :=
  nm (si σ 14 t0) fun s3 =>
  if (gi s3 14) = 0 then (
    bd (f_M_areColumnsRight N s3) fun r140 s141 =>
    if r140 = 0 then (
      f_M_run_57 N s141 (-11 : Int32)
    ) else (
      f_M_run_53 N s141
    )
  ) else (
    f_M_run_53 N s3
  )
def f_M_run_25 (N : Nat) (σ : St) : Option (Int32 × St) :=
  f_M_run_30 N σ (-1 : Int32)
def f_M_run (N : Nat) (σ : St) : Option (Int32 × St) :=
  nm (si σ 12 (0 : Int32)) fun s1 =>
  nm (si s1 13 (0 : Int32)) fun s2 =>
  if (gi s2 3) = 0 then (
    f_M_run_25 N s2
  ) else (
    if (gi s2 7) = 0 then (
      f_M_run_25 N s2
    ) else (
      f_M_run_30 N s2 (0 : Int32)
    )
  )
def f_M_isThere (N : Nat) (σ : St) (x1 : Int32) (x2 : Int32) : Option (Int32 × St) :=
  bd (f_M_within N σ (x1).toInt64 (0 : Int64) (((gi σ 12) - (1 : Int32))).toInt64) fun r1 s2 =>
  if r1 = 0 then (
    some ((0 : Int32), s2)
  ) else (
    bd (f_M_within N s2 (x2).toInt64 (0 : Int64) (((gi s2 13) - (1 : Int32))).toInt64) fun r3 s4 =>
    if r3 = 0 then (
      some ((0 : Int32), s4)
    ) else (
      some ((1 : Int32), s4)
    )
  )
def f_M_cell (N : Nat) (σ : St) (x1 : Int32) (x2 : Int32) : Option (Int64 × St) :=
  bd (f_M_isThere N σ x1 x2) fun r1 s2 =>
  if r1 = 0 then (
    some ((0 : Int64), s2)
  ) else (
    ckb (((6 : Int32) * x1) + x2) 1206 <|
    if (ga s2 18 ((((6 : Int32) * x1) + x2)).toNatClampNeg) = 0 then (
      ckb (((6 : Int32) * x1) + x2) 1206 <|
      some ((gb s2 2 ((((6 : Int32) * x1) + x2)).toNatClampNeg), s2)
    ) else (
      some ((0 : Int64), s2)
    )
  )
def f_M_isNull (N : Nat) (σ : St) (x1 : Int32) (x2 : Int32) : Option (Int32 × St) :=
  bd (f_M_isThere N σ x1 x2) fun r1 s2 =>
  if r1 = 0 then (
    some ((0 : Int32), s2)
  ) else (
    ckb (((6 : Int32) * x1) + x2) 1206 <|
    if (ga s2 18 ((((6 : Int32) * x1) + x2)).toNatClampNeg) = 0 then (
      some ((0 : Int32), s2)
    ) else (
      some ((1 : Int32), s2)
    )
  )
def f_M_answer (N : Nat) (σ : St) (x1 : Int32) : Option (Int32 × St) :=
  if x1 = 0 then (
    some ((gi σ 12), σ)
  ) else (
    if x1 = (1 : Int32) then (
      some ((gi σ 13), σ)
    ) else (
      some ((-1 : Int32), σ)
    )
  )
