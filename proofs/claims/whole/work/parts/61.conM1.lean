set_option maxRecDepth 100000 in
set_option maxHeartbeats 4000000 in
theorem c_M_constant (l : Launch) (D : va_G) (ca : Nat → ClassId) (g : Bool) (a : Nat → Nat) (tl : va_W) (N : Nat) (σ σ' : St) (x1 : Int64) (x3 : Int32) (r : Int32) (h : f_M_constant N σ x1 x3 = some (r, σ')) : CtI l y_M_constant ws_M_constant rm_M_constant 0 0 D vCl (tyM ca) nwM [.ref (a 0), .long x1, .int x3] (wM g ca a σ ++ tl) (wM g ca a σ' ++ tl) r := by
  refine en_I (ws' := BIG) (by decide +kernel) rfl (Nat.le_of_ble_eq_true rfl) ?_
  intro p e s m below meth c A ls R args H locs hR hx hb hr hlk hml hown hB hK hN hP hD hA hS hl
  have hl : lv_has ls 4 [(0, .ref (a 0)), (1, .long x1), (3, .int x3)] := hl
  unfold f_M_constant at h
  refine lv_lload_n hx hb d_M_constant_0 rfl (lv_at hl 1 rfl) ?_
  refine lv_ldc2 (v := (-1000000000000 : Int64)) hx hb hown (hB _ m_1039) d_M_constant_1 ?_
  refine lv_ldc2 (v := (1000000000000 : Int64)) hx hb hown (hB _ m_1040) d_M_constant_4 ?_
  obtain ⟨r1, s2, hr1, h⟩ := bd_some h
  refine go_SI (rest := []) ⟨hx, hb, hml, hown, hB⟩ nwM_ok (c_M_within l D ca g a tl N σ s2 x1 (-1000000000000 : Int64) (1000000000000 : Int64) r1 hr1) (cwx_S hB m_1032 kw_M_within ⟨by rw [hR]; decide, by rw [hR]; decide⟩ rfl rfl) hN hK hP hD hS hA rfl hl.1 rfl (Nat.le_of_ble_eq_true rfl) d_M_constant_7 ⟨by rw [hR]; exact Nat.le_of_ble_eq_true rfl, by rw [hR]; exact Nat.le_of_ble_eq_true rfl⟩ (fun H locs hP hD hS => ?_)
  refine lv_if_ne (tgt := 16) hx hb d_M_constant_10 (by decide) (fun hc => ?_) (fun hc => ?_)
  · replace h := it_f h hc
    refine lv_aload_n hx hb d_M_constant_16 rfl (lv_at hl 0 rfl) ?_
    refine Mg_0_5 hx hb hB hown (hB _ m_866) hK hP d_M_constant_17 ?_
    refine lv_bipush (v := (60 : Int32)) hx hb d_M_constant_20 (by decide) ?_
    refine lv_icmp_ne (tgt := 30) hx hb d_M_constant_22 (by decide) (fun hc => ?_) (fun hc => ?_)
    · replace h := it_f h hc
      refine lv_aload_n hx hb d_M_constant_30 rfl (lv_at hl 0 rfl) ?_
      refine lv_bipush (v := (20 : Int32)) hx hb d_M_constant_31 (by decide) ?_
      refine lv_iconst (v := (0 : Int32)) hx hb d_M_constant_33 (by decide) ?_
      refine lv_iconst (v := (0 : Int32)) hx hb d_M_constant_34 (by decide) ?_
      refine lv_lload_n hx hb d_M_constant_35 rfl (lv_at hl 1 rfl) ?_
      refine lv_iload_n hx hb d_M_constant_36 rfl (lv_at hl 2 rfl) ?_
      obtain ⟨r3, s4, hr3, h⟩ := bd_some h
      refine go_VI (rest := []) ⟨hx, hb, hml, hown, hB⟩ nwM_ok (c_M_make l D ca g a tl N s2 s4 (20 : Int32) (0 : Int32) (0 : Int32) x1 x3 r3 hr3) (cwx_V hB m_1049 kw_M_make ⟨by rw [hR]; decide, by rw [hR]; decide⟩ rfl rfl) (va_recv hK hP (ci := 1) (q0 := 0) rfl rfl) hN hK hP hD hS hA rfl hl.1 rfl (Nat.le_of_ble_eq_true rfl) d_M_constant_37 ⟨by rw [hR]; exact Nat.le_of_ble_eq_true rfl, by rw [hR]; exact Nat.le_of_ble_eq_true rfl⟩ (fun H locs hP hD hS => ?_)
      exact rf_I (w := (fun z => wM g ca a z ++ tl)) h hx hb hr hlk hK hP hD hS d_M_constant_40
    · replace h := it_t h hc
      refine lv_bipush (v := (-104 : Int32)) hx hb d_M_constant_25 (by decide) ?_
      refine lv_goto (tgt := 40) hx hb d_M_constant_27 (by decide) ?_
      exact rf_I (w := (fun z => wM g ca a z ++ tl)) h hx hb hr hlk hK hP hD hS d_M_constant_40
  · replace h := it_t h hc
    refine lv_bipush (v := (-102 : Int32)) hx hb d_M_constant_13 (by decide) ?_
    exact rf_I (w := (fun z => wM g ca a z ++ tl)) h hx hb hr hlk hK hP hD hS d_M_constant_15
set_option maxRecDepth 100000 in
set_option maxHeartbeats 4000000 in
theorem c_M_column (l : Launch) (D : va_G) (ca : Nat → ClassId) (g : Bool) (a : Nat → Nat) (tl : va_W) (N : Nat) (σ σ' : St) (x1 : Int32) (x2 : Int32) (r : Int32) (h : f_M_column N σ x1 x2 = some (r, σ')) : CtI l y_M_column ws_M_column rm_M_column 0 0 D vCl (tyM ca) nwM [.ref (a 0), .int x1, .int x2] (wM g ca a σ ++ tl) (wM g ca a σ' ++ tl) r := by
  refine en_I (ws' := BIG) (by decide +kernel) rfl (Nat.le_of_ble_eq_true rfl) ?_
  intro p e s m below meth c A ls R args H locs hR hx hb hr hlk hml hown hB hK hN hP hD hA hS hl
  have hl : lv_has ls 3 [(0, .ref (a 0)), (1, .int x1), (2, .int x2)] := hl
  unfold f_M_column at h
  refine lv_iload_n hx hb d_M_column_0 rfl (lv_at hl 1 rfl) ?_
  refine lv_i2l hx hb d_M_column_1 rfl ?_
  refine lv_lconst (v := (0 : Int64)) hx hb d_M_column_2 (by decide) ?_
  refine lv_ldc2 (v := (2 : Int64)) hx hb hown (hB _ m_1065) d_M_column_3 ?_
  obtain ⟨r1, s2, hr1, h⟩ := bd_some h
  refine go_SI (rest := []) ⟨hx, hb, hml, hown, hB⟩ nwM_ok (c_M_within l D ca g a tl N σ s2 (x1).toInt64 (0 : Int64) (2 : Int64) r1 hr1) (cwx_S hB m_1032 kw_M_within ⟨by rw [hR]; decide, by rw [hR]; decide⟩ rfl rfl) hN hK hP hD hS hA rfl hl.1 rfl (Nat.le_of_ble_eq_true rfl) d_M_column_6 ⟨by rw [hR]; exact Nat.le_of_ble_eq_true rfl, by rw [hR]; exact Nat.le_of_ble_eq_true rfl⟩ (fun H locs hP hD hS => ?_)
  refine lv_if_eq (tgt := 24) hx hb d_M_column_9 (by decide) (fun hc => ?_) (fun hc => ?_)
  · replace h := it_t h hc
    refine lv_bipush (v := (-102 : Int32)) hx hb d_M_column_24 (by decide) ?_
    exact rf_I (w := (fun z => wM g ca a z ++ tl)) h hx hb hr hlk hK hP hD hS d_M_column_26
  · replace h := it_f h hc
    refine lv_iload_n hx hb d_M_column_12 rfl (lv_at hl 2 rfl) ?_
    refine lv_i2l hx hb d_M_column_13 rfl ?_
    refine lv_lconst (v := (0 : Int64)) hx hb d_M_column_14 (by decide) ?_
    refine lv_ldc2 (v := (3 : Int64)) hx hb hown (hB _ m_1066) d_M_column_15 ?_
    obtain ⟨r3, s4, hr3, h⟩ := bd_some h
    refine go_SI (rest := []) ⟨hx, hb, hml, hown, hB⟩ nwM_ok (c_M_within l D ca g a tl N s2 s4 (x2).toInt64 (0 : Int64) (3 : Int64) r3 hr3) (cwx_S hB m_1032 kw_M_within ⟨by rw [hR]; decide, by rw [hR]; decide⟩ rfl rfl) hN hK hP hD hS hA rfl hl.1 rfl (Nat.le_of_ble_eq_true rfl) d_M_column_18 ⟨by rw [hR]; exact Nat.le_of_ble_eq_true rfl, by rw [hR]; exact Nat.le_of_ble_eq_true rfl⟩ (fun H locs hP hD hS => ?_)
    refine lv_if_ne (tgt := 27) hx hb d_M_column_21 (by decide) (fun hc => ?_) (fun hc => ?_)
    · replace h := it_f h hc
      refine lv_aload_n hx hb d_M_column_27 rfl (lv_at hl 0 rfl) ?_
      refine Mg_0_5 hx hb hB hown (hB _ m_866) hK hP d_M_column_28 ?_
      refine lv_bipush (v := (60 : Int32)) hx hb d_M_column_31 (by decide) ?_
      refine lv_icmp_ne (tgt := 41) hx hb d_M_column_33 (by decide) (fun hc => ?_) (fun hc => ?_)
      · replace h := it_f h hc
        refine lv_aload_n hx hb d_M_column_41 rfl (lv_at hl 0 rfl) ?_
        refine lv_bipush (v := (21 : Int32)) hx hb d_M_column_42 (by decide) ?_
        refine lv_iload_n hx hb d_M_column_44 rfl (lv_at hl 1 rfl) ?_
        refine lv_iload_n hx hb d_M_column_45 rfl (lv_at hl 2 rfl) ?_
        refine lv_lconst (v := (0 : Int64)) hx hb d_M_column_46 (by decide) ?_
        refine lv_iconst (v := (0 : Int32)) hx hb d_M_column_47 (by decide) ?_
        obtain ⟨r5, s6, hr5, h⟩ := bd_some h
        refine go_VI (rest := []) ⟨hx, hb, hml, hown, hB⟩ nwM_ok (c_M_make l D ca g a tl N s4 s6 (21 : Int32) x1 x2 (0 : Int64) (0 : Int32) r5 hr5) (cwx_V hB m_1049 kw_M_make ⟨by rw [hR]; decide, by rw [hR]; decide⟩ rfl rfl) (va_recv hK hP (ci := 1) (q0 := 0) rfl rfl) hN hK hP hD hS hA rfl hl.1 rfl (Nat.le_of_ble_eq_true rfl) d_M_column_48 ⟨by rw [hR]; exact Nat.le_of_ble_eq_true rfl, by rw [hR]; exact Nat.le_of_ble_eq_true rfl⟩ (fun H locs hP hD hS => ?_)
        exact rf_I (w := (fun z => wM g ca a z ++ tl)) h hx hb hr hlk hK hP hD hS d_M_column_51
      · replace h := it_t h hc
        refine lv_bipush (v := (-104 : Int32)) hx hb d_M_column_36 (by decide) ?_
        refine lv_goto (tgt := 51) hx hb d_M_column_38 (by decide) ?_
        exact rf_I (w := (fun z => wM g ca a z ++ tl)) h hx hb hr hlk hK hP hD hS d_M_column_51
    · replace h := it_t h hc
      refine lv_bipush (v := (-102 : Int32)) hx hb d_M_column_24 (by decide) ?_
      exact rf_I (w := (fun z => wM g ca a z ++ tl)) h hx hb hr hlk hK hP hD hS d_M_column_26
set_option maxRecDepth 100000 in
set_option maxHeartbeats 4000000 in
theorem c_M_isExpression (l : Launch) (D : va_G) (ca : Nat → ClassId) (g : Bool) (a : Nat → Nat) (tl : va_W) (N : Nat) (σ σ' : St) (x1 : Int32) (r : Int32) (h : f_M_isExpression N σ x1 = some (r, σ')) : CtI l y_M_isExpression ws_M_isExpression rm_M_isExpression 0 0 D vCl (tyM ca) nwM [.ref (a 0), .int x1] (wM g ca a σ ++ tl) (wM g ca a σ' ++ tl) r := by
  refine en_Z (ws' := BIG) (by decide +kernel) rfl (Nat.le_of_ble_eq_true rfl) ?_
  intro p e s m below meth c A ls R args H locs hR hx hb hr hlk hml hown hB hK hN hP hD hA hS hl
  have hl : lv_has ls 2 [(0, .ref (a 0)), (1, .int x1)] := hl
  unfold f_M_isExpression at h
  refine lv_iload_n hx hb d_M_isExpression_0 rfl (lv_at hl 1 rfl) ?_
  refine lv_if_lt (tgt := 16) hx hb d_M_isExpression_1 (by decide) (fun hc => ?_) (fun hc => ?_)
  · replace h := it_t h hc
    refine lv_iconst (v := (0 : Int32)) hx hb d_M_isExpression_16 (by decide) ?_
    exact rf_Z (w := (fun z => wM g ca a z ++ tl)) h hx hb hr hlk hK hP hD hS rfl d_M_isExpression_17
  · replace h := it_f h hc
    refine lv_iload_n hx hb d_M_isExpression_4 rfl (lv_at hl 1 rfl) ?_
    refine lv_aload_n hx hb d_M_isExpression_5 rfl (lv_at hl 0 rfl) ?_
    refine Mg_0_5 hx hb hB hown (hB _ m_866) hK hP d_M_isExpression_6 ?_
    refine lv_icmp_ge (tgt := 16) hx hb d_M_isExpression_9 (by decide) (fun hc => ?_) (fun hc => ?_)
    · replace h := it_t h hc
      refine lv_iconst (v := (0 : Int32)) hx hb d_M_isExpression_16 (by decide) ?_
      exact rf_Z (w := (fun z => wM g ca a z ++ tl)) h hx hb hr hlk hK hP hD hS rfl d_M_isExpression_17
    · replace h := it_f h hc
      refine lv_iconst (v := (1 : Int32)) hx hb d_M_isExpression_12 (by decide) ?_
      refine lv_goto (tgt := 17) hx hb d_M_isExpression_13 (by decide) ?_
      exact rf_Z (w := (fun z => wM g ca a z ++ tl)) h hx hb hr hlk hK hP hD hS rfl d_M_isExpression_17
set_option maxRecDepth 100000 in
set_option maxHeartbeats 4000000 in
theorem c_M_isOne (l : Launch) (D : va_G) (ca : Nat → ClassId) (g : Bool) (a : Nat → Nat) (tl : va_W) (N : Nat) (σ σ' : St) (x1 : Int32) (r : Int32) (h : f_M_isOne N σ x1 = some (r, σ')) : CtI l y_M_isOne ws_M_isOne rm_M_isOne 0 0 D vCl (tyM ca) nwM [.ref (a 0), .int x1] (wM g ca a σ ++ tl) (wM g ca a σ' ++ tl) r := by
  refine en_Z (ws' := BIG) (by decide +kernel) rfl (Nat.le_of_ble_eq_true rfl) ?_
  intro p e s m below meth c A ls R args H locs hR hx hb hr hlk hml hown hB hK hN hP hD hA hS hl
  have hl : lv_has ls 2 [(0, .ref (a 0)), (1, .int x1)] := hl
  unfold f_M_isOne at h
  refine lv_iload_n hx hb d_M_isOne_0 rfl (lv_at hl 1 rfl) ?_
  refine lv_bipush (v := (11 : Int32)) hx hb d_M_isOne_1 (by decide) ?_
  refine lv_icmp_eq (tgt := 12) hx hb d_M_isOne_3 (by decide) (fun hc => ?_) (fun hc => ?_)
  · replace h := it_t h hc
    refine lv_iconst (v := (1 : Int32)) hx hb d_M_isOne_12 (by decide) ?_
    refine lv_goto (tgt := 17) hx hb d_M_isOne_13 (by decide) ?_
    exact rf_Z (w := (fun z => wM g ca a z ++ tl)) h hx hb hr hlk hK hP hD hS rfl d_M_isOne_17
  · replace h := it_f h hc
    refine lv_iload_n hx hb d_M_isOne_6 rfl (lv_at hl 1 rfl) ?_
    refine lv_bipush (v := (12 : Int32)) hx hb d_M_isOne_7 (by decide) ?_
    refine lv_icmp_ne (tgt := 16) hx hb d_M_isOne_9 (by decide) (fun hc => ?_) (fun hc => ?_)
    · replace h := it_f h hc
      refine lv_iconst (v := (0 : Int32)) hx hb d_M_isOne_16 (by decide) ?_
      exact rf_Z (w := (fun z => wM g ca a z ++ tl)) h hx hb hr hlk hK hP hD hS rfl d_M_isOne_17
    · replace h := it_t h hc
      refine lv_iconst (v := (1 : Int32)) hx hb d_M_isOne_12 (by decide) ?_
      refine lv_goto (tgt := 17) hx hb d_M_isOne_13 (by decide) ?_
      exact rf_Z (w := (fun z => wM g ca a z ++ tl)) h hx hb hr hlk hK hP hD hS rfl d_M_isOne_17
set_option maxRecDepth 100000 in
set_option maxHeartbeats 4000000 in
theorem c_M_isTruth (l : Launch) (D : va_G) (ca : Nat → ClassId) (g : Bool) (a : Nat → Nat) (tl : va_W) (N : Nat) (σ σ' : St) (x1 : Int32) (r : Int32) (h : f_M_isTruth N σ x1 = some (r, σ')) : CtI l y_M_isTruth ws_M_isTruth rm_M_isTruth 0 0 D vCl (tyM ca) nwM [.ref (a 0), .int x1] (wM g ca a σ ++ tl) (wM g ca a σ' ++ tl) r := by
  refine en_Z (ws' := BIG) (by decide +kernel) rfl (Nat.le_of_ble_eq_true rfl) ?_
  intro p e s m below meth c A ls R args H locs hR hx hb hr hlk hml hown hB hK hN hP hD hA hS hl
  have hl : lv_has ls 2 [(0, .ref (a 0)), (1, .int x1)] := hl
  unfold f_M_isTruth at h
  refine lv_aload_n hx hb d_M_isTruth_0 rfl (lv_at hl 0 rfl) ?_
  refine Mg_0_6 hx hb hB hown (hB _ m_867) hK hP d_M_isTruth_1 ?_
  refine lv_iload_n hx hb d_M_isTruth_4 rfl (lv_at hl 1 rfl) ?_
  obtain ⟨hi, h⟩ := ckb_some h
  refine Ma_5 hx hb hK hP hi d_M_isTruth_5 ?_
  refine lv_iconst (v := (5 : Int32)) hx hb d_M_isTruth_6 (by decide) ?_
  refine lv_icmp_lt (tgt := 25) hx hb d_M_isTruth_7 (by decide) (fun hc => ?_) (fun hc => ?_)
  · replace h := it_t h hc
    refine lv_iconst (v := (0 : Int32)) hx hb d_M_isTruth_25 (by decide) ?_
    exact rf_Z (w := (fun z => wM g ca a z ++ tl)) h hx hb hr hlk hK hP hD hS rfl d_M_isTruth_26
  · replace h := it_f h hc
    refine lv_aload_n hx hb d_M_isTruth_10 rfl (lv_at hl 0 rfl) ?_
    refine Mg_0_6 hx hb hB hown (hB _ m_867) hK hP d_M_isTruth_11 ?_
    refine lv_iload_n hx hb d_M_isTruth_14 rfl (lv_at hl 1 rfl) ?_
    obtain ⟨hi, h⟩ := ckb_some h
    refine Ma_5 hx hb hK hP hi d_M_isTruth_15 ?_
    refine lv_bipush (v := (12 : Int32)) hx hb d_M_isTruth_16 (by decide) ?_
    refine lv_icmp_gt (tgt := 25) hx hb d_M_isTruth_18 (by decide) (fun hc => ?_) (fun hc => ?_)
    · replace h := it_t h hc
      refine lv_iconst (v := (0 : Int32)) hx hb d_M_isTruth_25 (by decide) ?_
      exact rf_Z (w := (fun z => wM g ca a z ++ tl)) h hx hb hr hlk hK hP hD hS rfl d_M_isTruth_26
    · replace h := it_f h hc
      refine lv_iconst (v := (1 : Int32)) hx hb d_M_isTruth_21 (by decide) ?_
      refine lv_goto (tgt := 26) hx hb d_M_isTruth_22 (by decide) ?_
      exact rf_Z (w := (fun z => wM g ca a z ++ tl)) h hx hb hr hlk hK hP hD hS rfl d_M_isTruth_26
set_option maxRecDepth 100000 in
set_option maxHeartbeats 4000000 in
theorem c_M_op (l : Launch) (D : va_G) (ca : Nat → ClassId) (g : Bool) (a : Nat → Nat) (tl : va_W) (N : Nat) (σ σ' : St) (x1 : Int32) (x2 : Int32) (x3 : Int32) (r : Int32) (h : f_M_op N σ x1 x2 x3 = some (r, σ')) : CtI l y_M_op ws_M_op rm_M_op 0 0 D vCl (tyM ca) nwM [.ref (a 0), .int x1, .int x2, .int x3] (wM g ca a σ ++ tl) (wM g ca a σ' ++ tl) r := by
  refine en_I (ws' := BIG) (by decide +kernel) rfl (Nat.le_of_ble_eq_true rfl) ?_
  intro p e s m below meth c A ls R args H locs hR hx hb hr hlk hml hown hB hK hN hP hD hA hS hl
  have hl : lv_has ls 5 [(0, .ref (a 0)), (1, .int x1), (2, .int x2), (3, .int x3)] := hl
  unfold f_M_op at h
  refine lv_aload_n hx hb d_M_op_0 rfl (lv_at hl 0 rfl) ?_
  refine lv_iload_n hx hb d_M_op_1 rfl (lv_at hl 2 rfl) ?_
  obtain ⟨r1, s2, hr1, h⟩ := bd_some h
  refine go_VI (rest := []) ⟨hx, hb, hml, hown, hB⟩ nwM_ok (c_M_isExpression l D ca g a tl N σ s2 x2 r1 hr1) (cwx_V hB m_1071 kw_M_isExpression ⟨by rw [hR]; decide, by rw [hR]; decide⟩ rfl rfl) (va_recv hK hP (ci := 1) (q0 := 0) rfl rfl) hN hK hP hD hS hA rfl hl.1 rfl (Nat.le_of_ble_eq_true rfl) d_M_op_2 ⟨by rw [hR]; exact Nat.le_of_ble_eq_true rfl, by rw [hR]; exact Nat.le_of_ble_eq_true rfl⟩ (fun H locs hP hD hS => ?_)
  refine lv_if_eq (tgt := 24) hx hb d_M_op_5 (by decide) (fun hc => ?_) (fun hc => ?_)
  · replace h := it_t h hc
    refine lv_bipush (v := (-101 : Int32)) hx hb d_M_op_24 (by decide) ?_
    exact rf_I (w := (fun z => wM g ca a z ++ tl)) h hx hb hr hlk hK hP hD hS d_M_op_26
  · replace h := it_f h hc
    refine lv_aload_n hx hb d_M_op_8 rfl (lv_at hl 0 rfl) ?_
    refine lv_iload_n hx hb d_M_op_9 rfl (lv_at hl 1 rfl) ?_
    obtain ⟨r3, s4, hr3, h⟩ := bd_some h
    refine go_VI (rest := []) ⟨hx, hb, hml, hown, hB⟩ nwM_ok (c_M_isOne l D ca g a tl N s2 s4 x1 r3 hr3) (cwx_V hB m_1075 kw_M_isOne ⟨by rw [hR]; decide, by rw [hR]; decide⟩ rfl rfl) (va_recv hK hP (ci := 1) (q0 := 0) rfl rfl) hN hK hP hD hS hA rfl hl.1 rfl (Nat.le_of_ble_eq_true rfl) d_M_op_10 ⟨by rw [hR]; exact Nat.le_of_ble_eq_true rfl, by rw [hR]; exact Nat.le_of_ble_eq_true rfl⟩ (fun H locs hP hD hS => ?_)
    have L27 : ∀ (σ : St) (x1 : Int32) (x2 : Int32) (x3 : Int32) (H : Heap) (locs : List Loc) (ls : Array Slot), va_P D vCl (wM g ca a σ ++ tl) H → va_D A (wM g ca a σ ++ tl) → va_S A s.heap H locs → lv_has ls 5 [(0, .ref (a 0)), (1, .int x1), (2, .int x2), (3, .int x3)] → f_M_op_27 N σ x1 x2 x3 = some (r, σ') → W p l e R s m args below meth c H locs 0 0 (MQ below (qb_QI D vCl (tyM ca) (wM g ca a σ' ++ tl) A r) args s 0 0 A) (F0 m 27 ls []) := by
      intro σ x1 x2 x3 H locs ls hP hD hS hl h
      unfold f_M_op_27 at h
      refine lv_iload_n hx hb d_M_op_27 rfl (lv_at hl 1 rfl) ?_
      refine lv_i2l hx hb d_M_op_28 rfl ?_
      refine lv_lconst (v := (0 : Int64)) hx hb d_M_op_29 (by decide) ?_
      refine lv_ldc2 (v := (12 : Int64)) hx hb hown (hB _ m_1079) d_M_op_30 ?_
      obtain ⟨r5, s6, hr5, h⟩ := bd_some h
      refine go_SI (rest := []) ⟨hx, hb, hml, hown, hB⟩ nwM_ok (c_M_within l D ca g a tl N σ s6 (x1).toInt64 (0 : Int64) (12 : Int64) r5 hr5) (cwx_S hB m_1032 kw_M_within ⟨by rw [hR]; decide, by rw [hR]; decide⟩ rfl rfl) hN hK hP hD hS hA rfl hl.1 rfl (Nat.le_of_ble_eq_true rfl) d_M_op_33 ⟨by rw [hR]; exact Nat.le_of_ble_eq_true rfl, by rw [hR]; exact Nat.le_of_ble_eq_true rfl⟩ (fun H locs hP hD hS => ?_)
      refine lv_if_ne (tgt := 42) hx hb d_M_op_36 (by decide) (fun hc => ?_) (fun hc => ?_)
      · replace h := it_f h hc
        refine lv_iload_n hx hb d_M_op_42 rfl (lv_at hl 1 rfl) ?_
        refine lv_bipush (v := (9 : Int32)) hx hb d_M_op_43 (by decide) ?_
        have L59 : ∀ (σ : St) (x1 : Int32) (x2 : Int32) (x3 : Int32) (t0 : Int32) (H : Heap) (locs : List Loc) (ls : Array Slot), va_P D vCl (wM g ca a σ ++ tl) H → va_D A (wM g ca a σ ++ tl) → va_S A s.heap H locs → lv_has ls 5 [(0, .ref (a 0)), (1, .int x1), (2, .int x2), (3, .int x3)] → f_M_op_59 N σ x1 x2 x3 t0 = some (r, σ') → W p l e R s m args below meth c H locs 0 0 (MQ below (qb_QI D vCl (tyM ca) (wM g ca a σ' ++ tl) A r) args s 0 0 A) (F0 m 59 ls [.int t0]) := by
          intro σ x1 x2 x3 t0 H locs ls hP hD hS hl h
          unfold f_M_op_59 at h
          refine lv_istore (lv' := [(4, .int t0), (0, .ref (a 0)), (1, .int x1), (2, .int x2), (3, .int x3)]) hx hb d_M_op_59 hl (by decide) rfl (fun ls hl => ?_)
          refine lv_aload_n hx hb d_M_op_61 rfl (lv_at hl 1 rfl) ?_
          refine lv_iload_n hx hb d_M_op_62 rfl (lv_at hl 3 rfl) ?_
          obtain ⟨r7, s8, hr7, h⟩ := bd_some h
          refine go_VI (rest := []) ⟨hx, hb, hml, hown, hB⟩ nwM_ok (c_M_isTruth l D ca g a tl N σ s8 x2 r7 hr7) (cwx_V hB m_1080 kw_M_isTruth ⟨by rw [hR]; decide, by rw [hR]; decide⟩ rfl rfl) (va_recv hK hP (ci := 1) (q0 := 0) rfl rfl) hN hK hP hD hS hA rfl hl.1 rfl (Nat.le_of_ble_eq_true rfl) d_M_op_63 ⟨by rw [hR]; exact Nat.le_of_ble_eq_true rfl, by rw [hR]; exact Nat.le_of_ble_eq_true rfl⟩ (fun H locs hP hD hS => ?_)
          refine lv_iload hx hb d_M_op_66 (lv_at hl 0 rfl) ?_
          refine lv_icmp_ne (tgt := 89) hx hb d_M_op_68 (by decide) (fun hc => ?_) (fun hc => ?_)
          · replace h := it_f h hc
            refine lv_bipush (v := (-103 : Int32)) hx hb d_M_op_89 (by decide) ?_
            exact rf_I (w := (fun z => wM g ca a z ++ tl)) h hx hb hr hlk hK hP hD hS d_M_op_91
          · replace h := it_t h hc
            refine lv_aload_n hx hb d_M_op_71 rfl (lv_at hl 1 rfl) ?_
            refine lv_iload_n hx hb d_M_op_72 rfl (lv_at hl 2 rfl) ?_
            obtain ⟨r9, s10, hr9, h⟩ := bd_some h
            refine go_VI (rest := []) ⟨hx, hb, hml, hown, hB⟩ nwM_ok (c_M_isTwo l D ca g a tl N s8 s10 x1 r9 hr9) (cwx_V hB m_1053 kw_M_isTwo ⟨by rw [hR]; decide, by rw [hR]; decide⟩ rfl rfl) (va_recv hK hP (ci := 1) (q0 := 0) rfl rfl) hN hK hP hD hS hA rfl hl.1 rfl (Nat.le_of_ble_eq_true rfl) d_M_op_73 ⟨by rw [hR]; exact Nat.le_of_ble_eq_true rfl, by rw [hR]; exact Nat.le_of_ble_eq_true rfl⟩ (fun H locs hP hD hS => ?_)
            have L92 : ∀ (σ : St) (x1 : Int32) (x2 : Int32) (x3 : Int32) (H : Heap) (locs : List Loc) (ls : Array Slot), va_P D vCl (wM g ca a σ ++ tl) H → va_D A (wM g ca a σ ++ tl) → va_S A s.heap H locs → lv_has ls 5 [(0, .ref (a 0)), (1, .int x1), (2, .int x2), (3, .int x3)] → f_M_op_92 N σ x1 x2 x3 = some (r, σ') → W p l e R s m args below meth c H locs 0 0 (MQ below (qb_QI D vCl (tyM ca) (wM g ca a σ' ++ tl) A r) args s 0 0 A) (F0 m 92 ls []) := by
              intro σ x1 x2 x3 H locs ls hP hD hS hl h
              unfold f_M_op_92 at h
              refine lv_aload_n hx hb d_M_op_92 rfl (lv_at hl 0 rfl) ?_
              refine Mg_0_5 hx hb hB hown (hB _ m_866) hK hP d_M_op_93 ?_
              refine lv_bipush (v := (60 : Int32)) hx hb d_M_op_96 (by decide) ?_
              refine lv_icmp_eq (tgt := 133) hx hb d_M_op_98 (by decide) (fun hc => ?_) (fun hc => ?_)
              · replace h := it_t h hc
                refine lv_bipush (v := (-104 : Int32)) hx hb d_M_op_133 (by decide) ?_
                exact rf_I (w := (fun z => wM g ca a z ++ tl)) h hx hb hr hlk hK hP hD hS d_M_op_135
              · replace h := it_f h hc
                refine lv_iconst (v := (1 : Int32)) hx hb d_M_op_101 (by decide) ?_
                refine lv_aload_n hx hb d_M_op_102 rfl (lv_at hl 0 rfl) ?_
                refine Mg_0_11 hx hb hB hown (hB _ m_872) hK hP d_M_op_103 ?_
                refine lv_iload_n hx hb d_M_op_106 rfl (lv_at hl 2 rfl) ?_
                obtain ⟨hi, h⟩ := ckb_some h
                refine Ma_10 hx hb hK hP hi d_M_op_107 ?_
                refine lv_iadd hx hb d_M_op_108 ?_
                refine lv_aload_n hx hb d_M_op_109 rfl (lv_at hl 0 rfl) ?_
                refine lv_iload_n hx hb d_M_op_110 rfl (lv_at hl 1 rfl) ?_
                obtain ⟨r11, s12, hr11, h⟩ := bd_some h
                refine go_VI (rest := [.int ((1 : Int32) + (ga σ 7 (x2).toNatClampNeg))]) ⟨hx, hb, hml, hown, hB⟩ nwM_ok (c_M_isTwo l D ca g a tl N σ s12 x1 r11 hr11) (cwx_V hB m_1053 kw_M_isTwo ⟨by rw [hR]; decide, by rw [hR]; decide⟩ rfl rfl) (va_recv hK hP (ci := 1) (q0 := 0) rfl rfl) hN hK hP hD hS hA rfl hl.1 rfl (Nat.le_of_ble_eq_true rfl) d_M_op_111 ⟨by rw [hR]; exact Nat.le_of_ble_eq_true rfl, by rw [hR]; exact Nat.le_of_ble_eq_true rfl⟩ (fun H locs hP hD hS => ?_)
                have L127 : ∀ (σ : St) (x1 : Int32) (x2 : Int32) (x3 : Int32) (t0 : Int32) (t1 : Int32) (H : Heap) (locs : List Loc) (ls : Array Slot), va_P D vCl (wM g ca a σ ++ tl) H → va_D A (wM g ca a σ ++ tl) → va_S A s.heap H locs → lv_has ls 5 [(0, .ref (a 0)), (1, .int x1), (2, .int x2), (3, .int x3)] → f_M_op_127 N σ x1 x2 x3 t0 t1 = some (r, σ') → W p l e R s m args below meth c H locs 0 0 (MQ below (qb_QI D vCl (tyM ca) (wM g ca a σ' ++ tl) A r) args s 0 0 A) (F0 m 127 ls [.int t0, .int t1]) := by
                  intro σ x1 x2 x3 t0 t1 H locs ls hP hD hS hl h
                  unfold f_M_op_127 at h
                  refine lv_iadd hx hb d_M_op_127 ?_
                  refine lv_bipush (v := (60 : Int32)) hx hb d_M_op_128 (by decide) ?_
                  refine lv_icmp_le (tgt := 136) hx hb d_M_op_130 (by decide) (fun hc => ?_) (fun hc => ?_)
                  · replace h := it_t h hc
                    refine lv_aload_n hx hb d_M_op_136 rfl (lv_at hl 0 rfl) ?_
                    refine lv_iload_n hx hb d_M_op_137 rfl (lv_at hl 1 rfl) ?_
                    refine lv_iload_n hx hb d_M_op_138 rfl (lv_at hl 2 rfl) ?_
                    refine lv_aload_n hx hb d_M_op_139 rfl (lv_at hl 0 rfl) ?_
                    refine lv_iload_n hx hb d_M_op_140 rfl (lv_at hl 1 rfl) ?_
                    obtain ⟨r13, s14, hr13, h⟩ := bd_some h
                    refine go_VI (rest := [.int x2, .int x1, .ref (a 0)]) ⟨hx, hb, hml, hown, hB⟩ nwM_ok (c_M_isTwo l D ca g a tl N σ s14 x1 r13 hr13) (cwx_V hB m_1053 kw_M_isTwo ⟨by rw [hR]; decide, by rw [hR]; decide⟩ rfl rfl) (va_recv hK hP (ci := 1) (q0 := 0) rfl rfl) hN hK hP hD hS hA rfl hl.1 rfl (Nat.le_of_ble_eq_true rfl) d_M_op_141 ⟨by rw [hR]; exact Nat.le_of_ble_eq_true rfl, by rw [hR]; exact Nat.le_of_ble_eq_true rfl⟩ (fun H locs hP hD hS => ?_)
                    have L152 : ∀ (σ : St) (t0 : Int32) (t1 : Int32) (t2 : Int32) (H : Heap) (locs : List Loc) (ls : Array Slot), va_P D vCl (wM g ca a σ ++ tl) H → va_D A (wM g ca a σ ++ tl) → va_S A s.heap H locs → lv_has ls 5 [] → f_M_op_152 N σ t0 t1 t2 = some (r, σ') → W p l e R s m args below meth c H locs 0 0 (MQ below (qb_QI D vCl (tyM ca) (wM g ca a σ' ++ tl) A r) args s 0 0 A) (F0 m 152 ls [.int t0, .int t1, .int t2, .ref (a 0)]) := by
                      intro σ t0 t1 t2 H locs ls hP hD hS hl h
                      unfold f_M_op_152 at h
                      refine lv_lconst (v := (0 : Int64)) hx hb d_M_op_152 (by decide) ?_
                      refine lv_iconst (v := (0 : Int32)) hx hb d_M_op_153 (by decide) ?_
                      obtain ⟨r15, s16, hr15, h⟩ := bd_some h
                      refine go_VI (rest := []) ⟨hx, hb, hml, hown, hB⟩ nwM_ok (c_M_make l D ca g a tl N σ s16 t2 t1 t0 (0 : Int64) (0 : Int32) r15 hr15) (cwx_V hB m_1049 kw_M_make ⟨by rw [hR]; decide, by rw [hR]; decide⟩ rfl rfl) (va_recv hK hP (ci := 1) (q0 := 0) rfl rfl) hN hK hP hD hS hA rfl hl.1 rfl (Nat.le_of_ble_eq_true rfl) d_M_op_154 ⟨by rw [hR]; exact Nat.le_of_ble_eq_true rfl, by rw [hR]; exact Nat.le_of_ble_eq_true rfl⟩ (fun H locs hP hD hS => ?_)
                      exact rf_I (w := (fun z => wM g ca a z ++ tl)) h hx hb hr hlk hK hP hD hS d_M_op_157
                    refine lv_if_eq (tgt := 151) hx hb d_M_op_144 (by decide) (fun hc => ?_) (fun hc => ?_)
                    · replace h := it_t h hc
                      refine lv_iconst (v := (0 : Int32)) hx hb d_M_op_151 (by decide) ?_
                      exact L152 s14 (0 : Int32) x2 x1 H locs ls hP hD hS (lv_sub hl [] rfl) h
                    · replace h := it_f h hc
                      refine lv_iload_n hx hb d_M_op_147 rfl (lv_at hl 3 rfl) ?_
                      refine lv_goto (tgt := 152) hx hb d_M_op_148 (by decide) ?_
                      exact L152 s14 x3 x2 x1 H locs ls hP hD hS (lv_sub hl [] rfl) h
                  · replace h := it_f h hc
                    refine lv_bipush (v := (-104 : Int32)) hx hb d_M_op_133 (by decide) ?_
                    exact rf_I (w := (fun z => wM g ca a z ++ tl)) h hx hb hr hlk hK hP hD hS d_M_op_135
                refine lv_if_eq (tgt := 126) hx hb d_M_op_114 (by decide) (fun hc => ?_) (fun hc => ?_)
                · replace h := it_t h hc
                  refine lv_iconst (v := (0 : Int32)) hx hb d_M_op_126 (by decide) ?_
                  exact L127 s12 x1 x2 x3 (0 : Int32) ((1 : Int32) + (ga σ 7 (x2).toNatClampNeg)) H locs ls hP hD hS (lv_sub hl [0, 1, 2, 3] rfl) h
                · replace h := it_f h hc
                  refine lv_aload_n hx hb d_M_op_117 rfl (lv_at hl 0 rfl) ?_
                  refine Mg_0_11 hx hb hB hown (hB _ m_872) hK hP d_M_op_118 ?_
                  refine lv_iload_n hx hb d_M_op_121 rfl (lv_at hl 3 rfl) ?_
                  obtain ⟨hi, h⟩ := ckb_some h
                  refine Ma_10 hx hb hK hP hi d_M_op_122 ?_
                  refine lv_goto (tgt := 127) hx hb d_M_op_123 (by decide) ?_
                  exact L127 s12 x1 x2 x3 (ga s12 7 (x3).toNatClampNeg) ((1 : Int32) + (ga σ 7 (x2).toNatClampNeg)) H locs ls hP hD hS (lv_sub hl [0, 1, 2, 3] rfl) h
            refine lv_if_eq (tgt := 92) hx hb d_M_op_76 (by decide) (fun hc => ?_) (fun hc => ?_)
            · replace h := it_t h hc
              exact L92 s10 x1 x2 x3 H locs ls hP hD hS (lv_sub hl [1, 2, 3, 4] rfl) h
            · replace h := it_f h hc
              refine lv_aload_n hx hb d_M_op_79 rfl (lv_at hl 1 rfl) ?_
              refine lv_iload_n hx hb d_M_op_80 rfl (lv_at hl 4 rfl) ?_
              obtain ⟨r17, s18, hr17, h⟩ := bd_some h
              refine go_VI (rest := []) ⟨hx, hb, hml, hown, hB⟩ nwM_ok (c_M_isTruth l D ca g a tl N s10 s18 x3 r17 hr17) (cwx_V hB m_1080 kw_M_isTruth ⟨by rw [hR]; decide, by rw [hR]; decide⟩ rfl rfl) (va_recv hK hP (ci := 1) (q0 := 0) rfl rfl) hN hK hP hD hS hA rfl hl.1 rfl (Nat.le_of_ble_eq_true rfl) d_M_op_81 ⟨by rw [hR]; exact Nat.le_of_ble_eq_true rfl, by rw [hR]; exact Nat.le_of_ble_eq_true rfl⟩ (fun H locs hP hD hS => ?_)
              refine lv_iload hx hb d_M_op_84 (lv_at hl 0 rfl) ?_
              refine lv_icmp_eq (tgt := 92) hx hb d_M_op_86 (by decide) (fun hc => ?_) (fun hc => ?_)
              · replace h := it_t h hc
                exact L92 s18 x1 x2 x3 H locs ls hP hD hS (lv_sub hl [1, 2, 3, 4] rfl) h
              · replace h := it_f h hc
                refine lv_bipush (v := (-103 : Int32)) hx hb d_M_op_89 (by decide) ?_
                exact rf_I (w := (fun z => wM g ca a z ++ tl)) h hx hb hr hlk hK hP hD hS d_M_op_91
        have L58 : ∀ (σ : St) (x1 : Int32) (x2 : Int32) (x3 : Int32) (H : Heap) (locs : List Loc) (ls : Array Slot), va_P D vCl (wM g ca a σ ++ tl) H → va_D A (wM g ca a σ ++ tl) → va_S A s.heap H locs → lv_has ls 5 [(0, .ref (a 0)), (1, .int x1), (2, .int x2), (3, .int x3)] → f_M_op_58 N σ x1 x2 x3 = some (r, σ') → W p l e R s m args below meth c H locs 0 0 (MQ below (qb_QI D vCl (tyM ca) (wM g ca a σ' ++ tl) A r) args s 0 0 A) (F0 m 58 ls []) := by
          intro σ x1 x2 x3 H locs ls hP hD hS hl h
          unfold f_M_op_58 at h
          refine lv_iconst (v := (0 : Int32)) hx hb d_M_op_58 (by decide) ?_
          exact L59 σ x1 x2 x3 (0 : Int32) H locs ls hP hD hS (lv_sub hl [0, 1, 2, 3] rfl) h
        refine lv_icmp_lt (tgt := 58) hx hb d_M_op_45 (by decide) (fun hc => ?_) (fun hc => ?_)
        · replace h := it_t h hc
          exact L58 s6 x1 x2 x3 H locs ls hP hD hS (lv_sub hl [0, 1, 2, 3] rfl) h
        · replace h := it_f h hc
          refine lv_iload_n hx hb d_M_op_48 rfl (lv_at hl 1 rfl) ?_
          refine lv_bipush (v := (11 : Int32)) hx hb d_M_op_49 (by decide) ?_
          refine lv_icmp_gt (tgt := 58) hx hb d_M_op_51 (by decide) (fun hc => ?_) (fun hc => ?_)
          · replace h := it_t h hc
            exact L58 s6 x1 x2 x3 H locs ls hP hD hS (lv_sub hl [0, 1, 2, 3] rfl) h
          · replace h := it_f h hc
            refine lv_iconst (v := (1 : Int32)) hx hb d_M_op_54 (by decide) ?_
            refine lv_goto (tgt := 59) hx hb d_M_op_55 (by decide) ?_
            exact L59 s6 x1 x2 x3 (1 : Int32) H locs ls hP hD hS (lv_sub hl [0, 1, 2, 3] rfl) h
      · replace h := it_t h hc
        refine lv_bipush (v := (-102 : Int32)) hx hb d_M_op_39 (by decide) ?_
        exact rf_I (w := (fun z => wM g ca a z ++ tl)) h hx hb hr hlk hK hP hD hS d_M_op_41
    refine lv_if_ne (tgt := 27) hx hb d_M_op_13 (by decide) (fun hc => ?_) (fun hc => ?_)
    · replace h := it_f h hc
      exact L27 s4 x1 x2 x3 H locs ls hP hD hS (lv_sub hl [0, 1, 2, 3] rfl) h
    · replace h := it_t h hc
      refine lv_aload_n hx hb d_M_op_16 rfl (lv_at hl 0 rfl) ?_
      refine lv_iload_n hx hb d_M_op_17 rfl (lv_at hl 3 rfl) ?_
      obtain ⟨r19, s20, hr19, h⟩ := bd_some h
      refine go_VI (rest := []) ⟨hx, hb, hml, hown, hB⟩ nwM_ok (c_M_isExpression l D ca g a tl N s4 s20 x3 r19 hr19) (cwx_V hB m_1071 kw_M_isExpression ⟨by rw [hR]; decide, by rw [hR]; decide⟩ rfl rfl) (va_recv hK hP (ci := 1) (q0 := 0) rfl rfl) hN hK hP hD hS hA rfl hl.1 rfl (Nat.le_of_ble_eq_true rfl) d_M_op_18 ⟨by rw [hR]; exact Nat.le_of_ble_eq_true rfl, by rw [hR]; exact Nat.le_of_ble_eq_true rfl⟩ (fun H locs hP hD hS => ?_)
      refine lv_if_ne (tgt := 27) hx hb d_M_op_21 (by decide) (fun hc => ?_) (fun hc => ?_)
      · replace h := it_f h hc
        exact L27 s20 x1 x2 x3 H locs ls hP hD hS (lv_sub hl [0, 1, 2, 3] rfl) h
      · replace h := it_t h hc
        refine lv_bipush (v := (-101 : Int32)) hx hb d_M_op_24 (by decide) ?_
        exact rf_I (w := (fun z => wM g ca a z ++ tl)) h hx hb hr hlk hK hP hD hS d_M_op_26
set_option maxRecDepth 100000 in
set_option maxHeartbeats 4000000 in
theorem c_M_aggregate (l : Launch) (D : va_G) (ca : Nat → ClassId) (g : Bool) (a : Nat → Nat) (tl : va_W) (N : Nat) (σ σ' : St) (x1 : Int32) (x2 : Int32) (x3 : Int32) (r : Int32) (h : f_M_aggregate N σ x1 x2 x3 = some (r, σ')) : CtI l y_M_aggregate ws_M_aggregate rm_M_aggregate 0 0 D vCl (tyM ca) nwM [.ref (a 0), .int x1, .int x2, .int x3] (wM g ca a σ ++ tl) (wM g ca a σ' ++ tl) r := by
  refine en_I (ws' := BIG) (by decide +kernel) rfl (Nat.le_of_ble_eq_true rfl) ?_
  intro p e s m below meth c A ls R args H locs hR hx hb hr hlk hml hown hB hK hN hP hD hA hS hl
  have hl : lv_has ls 4 [(0, .ref (a 0)), (1, .int x1), (2, .int x2), (3, .int x3)] := hl
  unfold f_M_aggregate at h
  refine lv_aload_n hx hb d_M_aggregate_0 rfl (lv_at hl 0 rfl) ?_
  refine lv_iload_n hx hb d_M_aggregate_1 rfl (lv_at hl 2 rfl) ?_
  obtain ⟨r1, s2, hr1, h⟩ := bd_some h
  refine go_VI (rest := []) ⟨hx, hb, hml, hown, hB⟩ nwM_ok (c_M_isExpression l D ca g a tl N σ s2 x2 r1 hr1) (cwx_V hB m_1071 kw_M_isExpression ⟨by rw [hR]; decide, by rw [hR]; decide⟩ rfl rfl) (va_recv hK hP (ci := 1) (q0 := 0) rfl rfl) hN hK hP hD hS hA rfl hl.1 rfl (Nat.le_of_ble_eq_true rfl) d_M_aggregate_2 ⟨by rw [hR]; exact Nat.le_of_ble_eq_true rfl, by rw [hR]; exact Nat.le_of_ble_eq_true rfl⟩ (fun H locs hP hD hS => ?_)
  refine lv_if_ne (tgt := 11) hx hb d_M_aggregate_5 (by decide) (fun hc => ?_) (fun hc => ?_)
  · replace h := it_f h hc
    refine lv_iload_n hx hb d_M_aggregate_11 rfl (lv_at hl 1 rfl) ?_
    refine lv_i2l hx hb d_M_aggregate_12 rfl ?_
    refine lv_lconst (v := (0 : Int64)) hx hb d_M_aggregate_13 (by decide) ?_
    refine lv_ldc2 (v := (5 : Int64)) hx hb hown (hB _ m_1088) d_M_aggregate_14 ?_
    obtain ⟨r3, s4, hr3, h⟩ := bd_some h
    refine go_SI (rest := []) ⟨hx, hb, hml, hown, hB⟩ nwM_ok (c_M_within l D ca g a tl N s2 s4 (x1).toInt64 (0 : Int64) (5 : Int64) r3 hr3) (cwx_S hB m_1032 kw_M_within ⟨by rw [hR]; decide, by rw [hR]; decide⟩ rfl rfl) hN hK hP hD hS hA rfl hl.1 rfl (Nat.le_of_ble_eq_true rfl) d_M_aggregate_17 ⟨by rw [hR]; exact Nat.le_of_ble_eq_true rfl, by rw [hR]; exact Nat.le_of_ble_eq_true rfl⟩ (fun H locs hP hD hS => ?_)
    refine lv_if_ne (tgt := 26) hx hb d_M_aggregate_20 (by decide) (fun hc => ?_) (fun hc => ?_)
    · replace h := it_f h hc
      refine lv_aload_n hx hb d_M_aggregate_26 rfl (lv_at hl 0 rfl) ?_
      refine lv_iload_n hx hb d_M_aggregate_27 rfl (lv_at hl 2 rfl) ?_
      obtain ⟨r5, s6, hr5, h⟩ := bd_some h
      refine go_VI (rest := []) ⟨hx, hb, hml, hown, hB⟩ nwM_ok (c_M_isTruth l D ca g a tl N s4 s6 x2 r5 hr5) (cwx_V hB m_1080 kw_M_isTruth ⟨by rw [hR]; decide, by rw [hR]; decide⟩ rfl rfl) (va_recv hK hP (ci := 1) (q0 := 0) rfl rfl) hN hK hP hD hS hA rfl hl.1 rfl (Nat.le_of_ble_eq_true rfl) d_M_aggregate_28 ⟨by rw [hR]; exact Nat.le_of_ble_eq_true rfl, by rw [hR]; exact Nat.le_of_ble_eq_true rfl⟩ (fun H locs hP hD hS => ?_)
      refine lv_if_ne (tgt := 43) hx hb d_M_aggregate_31 (by decide) (fun hc => ?_) (fun hc => ?_)
      · replace h := it_f h hc
        refine lv_bipush (v := (-103 : Int32)) hx hb d_M_aggregate_43 (by decide) ?_
        exact rf_I (w := (fun z => wM g ca a z ++ tl)) h hx hb hr hlk hK hP hD hS d_M_aggregate_45
      · replace h := it_t h hc
        refine lv_aload_n hx hb d_M_aggregate_34 rfl (lv_at hl 0 rfl) ?_
        refine Mg_0_12 hx hb hB hown (hB _ m_873) hK hP d_M_aggregate_35 ?_
        refine lv_iload_n hx hb d_M_aggregate_38 rfl (lv_at hl 2 rfl) ?_
        obtain ⟨hi, h⟩ := ckb_some h
        refine Ma_11 hx hb hK hP hi d_M_aggregate_39 ?_
        refine lv_if_eq (tgt := 46) hx hb d_M_aggregate_40 (by decide) (fun hc => ?_) (fun hc => ?_)
        · replace h := it_t h hc
          refine lv_aload_n hx hb d_M_aggregate_46 rfl (lv_at hl 0 rfl) ?_
          refine Mg_0_5 hx hb hB hown (hB _ m_866) hK hP d_M_aggregate_47 ?_
          refine lv_bipush (v := (60 : Int32)) hx hb d_M_aggregate_50 (by decide) ?_
          refine lv_icmp_eq (tgt := 77) hx hb d_M_aggregate_52 (by decide) (fun hc => ?_) (fun hc => ?_)
          · replace h := it_t h hc
            refine lv_bipush (v := (-104 : Int32)) hx hb d_M_aggregate_77 (by decide) ?_
            exact rf_I (w := (fun z => wM g ca a z ++ tl)) h hx hb hr hlk hK hP hD hS d_M_aggregate_79
          · replace h := it_f h hc
            refine lv_aload_n hx hb d_M_aggregate_55 rfl (lv_at hl 0 rfl) ?_
            refine Mg_0_14 hx hb hB hown (hB _ m_875) hK hP d_M_aggregate_56 ?_
            refine lv_bipush (v := (8 : Int32)) hx hb d_M_aggregate_59 (by decide) ?_
            refine lv_icmp_eq (tgt := 77) hx hb d_M_aggregate_61 (by decide) (fun hc => ?_) (fun hc => ?_)
            · replace h := it_t h hc
              refine lv_bipush (v := (-104 : Int32)) hx hb d_M_aggregate_77 (by decide) ?_
              exact rf_I (w := (fun z => wM g ca a z ++ tl)) h hx hb hr hlk hK hP hD hS d_M_aggregate_79
            · replace h := it_f h hc
              refine lv_iconst (v := (1 : Int32)) hx hb d_M_aggregate_64 (by decide) ?_
              refine lv_aload_n hx hb d_M_aggregate_65 rfl (lv_at hl 0 rfl) ?_
              refine Mg_0_11 hx hb hB hown (hB _ m_872) hK hP d_M_aggregate_66 ?_
              refine lv_iload_n hx hb d_M_aggregate_69 rfl (lv_at hl 2 rfl) ?_
              obtain ⟨hi, h⟩ := ckb_some h
              refine Ma_10 hx hb hK hP hi d_M_aggregate_70 ?_
              refine lv_iadd hx hb d_M_aggregate_71 ?_
              refine lv_bipush (v := (60 : Int32)) hx hb d_M_aggregate_72 (by decide) ?_
              refine lv_icmp_le (tgt := 80) hx hb d_M_aggregate_74 (by decide) (fun hc => ?_) (fun hc => ?_)
              · replace h := it_t h hc
                refine lv_aload_n hx hb d_M_aggregate_80 rfl (lv_at hl 0 rfl) ?_
                refine Mg_0_15 hx hb hB hown (hB _ m_876) hK hP d_M_aggregate_81 ?_
                refine lv_aload_n hx hb d_M_aggregate_84 rfl (lv_at hl 0 rfl) ?_
                refine Mg_0_14 hx hb hB hown (hB _ m_875) hK hP d_M_aggregate_85 ?_
                refine lv_aload_n hx hb d_M_aggregate_88 rfl (lv_at hl 0 rfl) ?_
                refine Mg_0_5 hx hb hB hown (hB _ m_866) hK hP d_M_aggregate_89 ?_
                obtain ⟨hi, h⟩ := ckb_some h
                obtain ⟨s7, es7, h⟩ := nm_some h
                refine Ms_13 es7 hx hb hK hP hD hS hi d_M_aggregate_92 (fun H locs hP hD hS => ?_)
                refine lv_aload_n hx hb d_M_aggregate_93 rfl (lv_at hl 0 rfl) ?_
                refine lv_dup hx hb d_M_aggregate_94 rfl ?_
                refine Mg_0_14 hx hb hB hown (hB _ m_875) hK hP d_M_aggregate_95 ?_
                refine lv_iconst (v := (1 : Int32)) hx hb d_M_aggregate_98 (by decide) ?_
                refine lv_iadd hx hb d_M_aggregate_99 ?_
                obtain ⟨s8, es8, h⟩ := nm_some h
                refine Mp_0_14 es8 hx hb hB hown (hB _ m_875) hK hP hD hS d_M_aggregate_100 (fun H locs hP hD hS => ?_)
                refine lv_aload_n hx hb d_M_aggregate_103 rfl (lv_at hl 0 rfl) ?_
                refine lv_bipush (v := (30 : Int32)) hx hb d_M_aggregate_104 (by decide) ?_
                refine lv_iload_n hx hb d_M_aggregate_106 rfl (lv_at hl 1 rfl) ?_
                refine lv_iadd hx hb d_M_aggregate_107 ?_
                refine lv_iload_n hx hb d_M_aggregate_108 rfl (lv_at hl 2 rfl) ?_
                refine lv_iconst (v := (0 : Int32)) hx hb d_M_aggregate_109 (by decide) ?_
                refine lv_lconst (v := (0 : Int64)) hx hb d_M_aggregate_110 (by decide) ?_
                refine lv_iload_n hx hb d_M_aggregate_111 rfl (lv_at hl 3 rfl) ?_
                obtain ⟨r9, s10, hr9, h⟩ := bd_some h
                refine go_VI (rest := []) ⟨hx, hb, hml, hown, hB⟩ nwM_ok (c_M_make l D ca g a tl N s8 s10 ((30 : Int32) + x1) x2 (0 : Int32) (0 : Int64) x3 r9 hr9) (cwx_V hB m_1049 kw_M_make ⟨by rw [hR]; decide, by rw [hR]; decide⟩ rfl rfl) (va_recv hK hP (ci := 1) (q0 := 0) rfl rfl) hN hK hP hD hS hA rfl hl.1 rfl (Nat.le_of_ble_eq_true rfl) d_M_aggregate_112 ⟨by rw [hR]; exact Nat.le_of_ble_eq_true rfl, by rw [hR]; exact Nat.le_of_ble_eq_true rfl⟩ (fun H locs hP hD hS => ?_)
                exact rf_I (w := (fun z => wM g ca a z ++ tl)) h hx hb hr hlk hK hP hD hS d_M_aggregate_115
              · replace h := it_f h hc
                refine lv_bipush (v := (-104 : Int32)) hx hb d_M_aggregate_77 (by decide) ?_
                exact rf_I (w := (fun z => wM g ca a z ++ tl)) h hx hb hr hlk hK hP hD hS d_M_aggregate_79
        · replace h := it_f h hc
          refine lv_bipush (v := (-103 : Int32)) hx hb d_M_aggregate_43 (by decide) ?_
          exact rf_I (w := (fun z => wM g ca a z ++ tl)) h hx hb hr hlk hK hP hD hS d_M_aggregate_45
    · replace h := it_t h hc
      refine lv_bipush (v := (-102 : Int32)) hx hb d_M_aggregate_23 (by decide) ?_
      exact rf_I (w := (fun z => wM g ca a z ++ tl)) h hx hb hr hlk hK hP hD hS d_M_aggregate_25
  · replace h := it_t h hc
    refine lv_bipush (v := (-101 : Int32)) hx hb d_M_aggregate_8 (by decide) ?_
    exact rf_I (w := (fun z => wM g ca a z ++ tl)) h hx hb hr hlk hK hP hD hS d_M_aggregate_10
set_option maxRecDepth 100000 in
set_option maxHeartbeats 4000000 in
theorem c_M_source (l : Launch) (D : va_G) (ca : Nat → ClassId) (g : Bool) (a : Nat → Nat) (tl : va_W) (N : Nat) (σ σ' : St) (x1 : Int32) (x2 : Int32) (x3 : Int32) (r : Int32) (h : f_M_source N σ x1 x2 x3 = some (r, σ')) : CtI l y_M_source ws_M_source rm_M_source 0 0 D vCl (tyM ca) nwM [.ref (a 0), .int x1, .int x2, .int x3] (wM g ca a σ ++ tl) (wM g ca a σ' ++ tl) r := by
  refine en_I (ws' := BIG) (by decide +kernel) rfl (Nat.le_of_ble_eq_true rfl) ?_
  intro p e s m below meth c A ls R args H locs hR hx hb hr hlk hml hown hB hK hN hP hD hA hS hl
  have hl : lv_has ls 4 [(0, .ref (a 0)), (1, .int x1), (2, .int x2), (3, .int x3)] := hl
  unfold f_M_source at h
  refine lv_iload_n hx hb d_M_source_0 rfl (lv_at hl 1 rfl) ?_
  refine lv_i2l hx hb d_M_source_1 rfl ?_
  refine lv_lconst (v := (0 : Int64)) hx hb d_M_source_2 (by decide) ?_
  refine lv_aload_n hx hb d_M_source_3 rfl (lv_at hl 0 rfl) ?_
  refine Mg_0_0 hx hb hB hown (hB _ m_861) hK hP d_M_source_4 ?_
  refine lv_iconst (v := (1 : Int32)) hx hb d_M_source_7 (by decide) ?_
  refine lv_isub hx hb d_M_source_8 ?_
  refine lv_i2l hx hb d_M_source_9 rfl ?_
  obtain ⟨r1, s2, hr1, h⟩ := bd_some h
  refine go_SI (rest := []) ⟨hx, hb, hml, hown, hB⟩ nwM_ok (c_M_within l D ca g a tl N σ s2 (x1).toInt64 (0 : Int64) (((gi σ 0) - (1 : Int32))).toInt64 r1 hr1) (cwx_S hB m_1032 kw_M_within ⟨by rw [hR]; decide, by rw [hR]; decide⟩ rfl rfl) hN hK hP hD hS hA rfl hl.1 rfl (Nat.le_of_ble_eq_true rfl) d_M_source_10 ⟨by rw [hR]; exact Nat.le_of_ble_eq_true rfl, by rw [hR]; exact Nat.le_of_ble_eq_true rfl⟩ (fun H locs hP hD hS => ?_)
  refine lv_if_eq (tgt := 29) hx hb d_M_source_13 (by decide) (fun hc => ?_) (fun hc => ?_)
  · replace h := it_t h hc
    refine lv_bipush (v := (-101 : Int32)) hx hb d_M_source_29 (by decide) ?_
    exact rf_I (w := (fun z => wM g ca a z ++ tl)) h hx hb hr hlk hK hP hD hS d_M_source_31
  · replace h := it_f h hc
    refine lv_iload_n hx hb d_M_source_16 rfl (lv_at hl 3 rfl) ?_
    refine lv_iconst (v := (-1 : Int32)) hx hb d_M_source_17 (by decide) ?_
    have L32 : ∀ (σ : St) (x1 : Int32) (x2 : Int32) (x3 : Int32) (H : Heap) (locs : List Loc) (ls : Array Slot), va_P D vCl (wM g ca a σ ++ tl) H → va_D A (wM g ca a σ ++ tl) → va_S A s.heap H locs → lv_has ls 4 [(0, .ref (a 0)), (1, .int x1), (2, .int x2), (3, .int x3)] → f_M_source_32 N σ x1 x2 x3 = some (r, σ') → W p l e R s m args below meth c H locs 0 0 (MQ below (qb_QI D vCl (tyM ca) (wM g ca a σ' ++ tl) A r) args s 0 0 A) (F0 m 32 ls []) := by
      intro σ x1 x2 x3 H locs ls hP hD hS hl h
      unfold f_M_source_32 at h
      refine lv_iload_n hx hb d_M_source_32 rfl (lv_at hl 2 rfl) ?_
      refine lv_i2l hx hb d_M_source_33 rfl ?_
      refine lv_lconst (v := (0 : Int64)) hx hb d_M_source_34 (by decide) ?_
      refine lv_ldc2 (v := (2 : Int64)) hx hb hown (hB _ m_1065) d_M_source_35 ?_
      obtain ⟨r3, s4, hr3, h⟩ := bd_some h
      refine go_SI (rest := []) ⟨hx, hb, hml, hown, hB⟩ nwM_ok (c_M_within l D ca g a tl N σ s4 (x2).toInt64 (0 : Int64) (2 : Int64) r3 hr3) (cwx_S hB m_1032 kw_M_within ⟨by rw [hR]; decide, by rw [hR]; decide⟩ rfl rfl) hN hK hP hD hS hA rfl hl.1 rfl (Nat.le_of_ble_eq_true rfl) d_M_source_38 ⟨by rw [hR]; exact Nat.le_of_ble_eq_true rfl, by rw [hR]; exact Nat.le_of_ble_eq_true rfl⟩ (fun H locs hP hD hS => ?_)
      refine lv_if_ne (tgt := 47) hx hb d_M_source_41 (by decide) (fun hc => ?_) (fun hc => ?_)
      · replace h := it_f h hc
        refine lv_aload_n hx hb d_M_source_47 rfl (lv_at hl 0 rfl) ?_
        refine Mg_0_16 hx hb hB hown (hB _ m_877) hK hP d_M_source_48 ?_
        have L58 : ∀ (σ : St) (x1 : Int32) (x2 : Int32) (x3 : Int32) (H : Heap) (locs : List Loc) (ls : Array Slot), va_P D vCl (wM g ca a σ ++ tl) H → va_D A (wM g ca a σ ++ tl) → va_S A s.heap H locs → lv_has ls 4 [(0, .ref (a 0)), (1, .int x1), (2, .int x2), (3, .int x3)] → f_M_source_58 N σ x1 x2 x3 = some (r, σ') → W p l e R s m args below meth c H locs 0 0 (MQ below (qb_QI D vCl (tyM ca) (wM g ca a σ' ++ tl) A r) args s 0 0 A) (F0 m 58 ls []) := by
          intro σ x1 x2 x3 H locs ls hP hD hS hl h
          unfold f_M_source_58 at h
          refine lv_iload_n hx hb d_M_source_58 rfl (lv_at hl 2 rfl) ?_
          have L67 : ∀ (σ : St) (x1 : Int32) (x2 : Int32) (x3 : Int32) (H : Heap) (locs : List Loc) (ls : Array Slot), va_P D vCl (wM g ca a σ ++ tl) H → va_D A (wM g ca a σ ++ tl) → va_S A s.heap H locs → lv_has ls 4 [(0, .ref (a 0)), (1, .int x1), (2, .int x2), (3, .int x3)] → f_M_source_67 N σ x1 x2 x3 = some (r, σ') → W p l e R s m args below meth c H locs 0 0 (MQ below (qb_QI D vCl (tyM ca) (wM g ca a σ' ++ tl) A r) args s 0 0 A) (F0 m 67 ls []) := by
            intro σ x1 x2 x3 H locs ls hP hD hS hl h
            unfold f_M_source_67 at h
            refine lv_iload_n hx hb d_M_source_67 rfl (lv_at hl 2 rfl) ?_
            have L87 : ∀ (σ : St) (x1 : Int32) (x2 : Int32) (x3 : Int32) (H : Heap) (locs : List Loc) (ls : Array Slot), va_P D vCl (wM g ca a σ ++ tl) H → va_D A (wM g ca a σ ++ tl) → va_S A s.heap H locs → lv_has ls 4 [(0, .ref (a 0)), (1, .int x1), (2, .int x2), (3, .int x3)] → f_M_source_87 N σ x1 x2 x3 = some (r, σ') → W p l e R s m args below meth c H locs 0 0 (MQ below (qb_QI D vCl (tyM ca) (wM g ca a σ' ++ tl) A r) args s 0 0 A) (F0 m 87 ls []) := by
              intro σ x1 x2 x3 H locs ls hP hD hS hl h
              unfold f_M_source_87 at h
              refine lv_aload_n hx hb d_M_source_87 rfl (lv_at hl 0 rfl) ?_
              refine Mg_0_16 hx hb hB hown (hB _ m_877) hK hP d_M_source_88 ?_
              refine lv_iconst (v := (3 : Int32)) hx hb d_M_source_91 (by decide) ?_
              refine lv_icmp_ne (tgt := 98) hx hb d_M_source_92 (by decide) (fun hc => ?_) (fun hc => ?_)
              · replace h := it_f h hc
                refine lv_aload_n hx hb d_M_source_98 rfl (lv_at hl 0 rfl) ?_
                refine Mg_0_17 hx hb hB hown (hB _ m_878) hK hP d_M_source_99 ?_
                refine lv_aload_n hx hb d_M_source_102 rfl (lv_at hl 0 rfl) ?_
                refine Mg_0_16 hx hb hB hown (hB _ m_877) hK hP d_M_source_103 ?_
                refine lv_iload_n hx hb d_M_source_106 rfl (lv_at hl 1 rfl) ?_
                obtain ⟨hi, h⟩ := ckb_some h
                obtain ⟨s5, es5, h⟩ := nm_some h
                refine Ms_14 es5 hx hb hK hP hD hS hi d_M_source_107 (fun H locs hP hD hS => ?_)
                refine lv_aload_n hx hb d_M_source_108 rfl (lv_at hl 0 rfl) ?_
                refine Mg_0_18 hx hb hB hown (hB _ m_879) hK hP d_M_source_109 ?_
                refine lv_aload_n hx hb d_M_source_112 rfl (lv_at hl 0 rfl) ?_
                refine Mg_0_16 hx hb hB hown (hB _ m_877) hK hP d_M_source_113 ?_
                refine lv_iload_n hx hb d_M_source_116 rfl (lv_at hl 2 rfl) ?_
                obtain ⟨hi, h⟩ := ckb_some h
                obtain ⟨s6, es6, h⟩ := nm_some h
                refine Ms_15 es6 hx hb hK hP hD hS hi d_M_source_117 (fun H locs hP hD hS => ?_)
                refine lv_aload_n hx hb d_M_source_118 rfl (lv_at hl 0 rfl) ?_
                refine Mg_0_19 hx hb hB hown (hB _ m_880) hK hP d_M_source_119 ?_
                refine lv_aload_n hx hb d_M_source_122 rfl (lv_at hl 0 rfl) ?_
                refine Mg_0_16 hx hb hB hown (hB _ m_877) hK hP d_M_source_123 ?_
                refine lv_iload_n hx hb d_M_source_126 rfl (lv_at hl 3 rfl) ?_
                obtain ⟨hi, h⟩ := ckb_some h
                obtain ⟨s7, es7, h⟩ := nm_some h
                refine Ms_16 es7 hx hb hK hP hD hS hi d_M_source_127 (fun H locs hP hD hS => ?_)
                refine lv_aload_n hx hb d_M_source_128 rfl (lv_at hl 0 rfl) ?_
                refine lv_dup hx hb d_M_source_129 rfl ?_
                refine Mg_0_16 hx hb hB hown (hB _ m_877) hK hP d_M_source_130 ?_
                refine lv_iconst (v := (1 : Int32)) hx hb d_M_source_133 (by decide) ?_
                refine lv_iadd hx hb d_M_source_134 ?_
                obtain ⟨s8, es8, h⟩ := nm_some h
                refine Mp_0_16 es8 hx hb hB hown (hB _ m_877) hK hP hD hS d_M_source_135 (fun H locs hP hD hS => ?_)
                refine lv_aload_n hx hb d_M_source_138 rfl (lv_at hl 0 rfl) ?_
                refine Mg_0_16 hx hb hB hown (hB _ m_877) hK hP d_M_source_139 ?_
                exact rf_I (w := (fun z => wM g ca a z ++ tl)) h hx hb hr hlk hK hP hD hS d_M_source_142
              · replace h := it_t h hc
                refine lv_bipush (v := (-104 : Int32)) hx hb d_M_source_95 (by decide) ?_
                exact rf_I (w := (fun z => wM g ca a z ++ tl)) h hx hb hr hlk hK hP hD hS d_M_source_97
            refine lv_if_le (tgt := 87) hx hb d_M_source_68 (by decide) (fun hc => ?_) (fun hc => ?_)
            · replace h := it_t h hc
              exact L87 σ x1 x2 x3 H locs ls hP hD hS (lv_sub hl [0, 1, 2, 3] rfl) h
            · replace h := it_f h hc
              refine lv_iload_n hx hb d_M_source_71 rfl (lv_at hl 3 rfl) ?_
              refine lv_iconst (v := (-1 : Int32)) hx hb d_M_source_72 (by decide) ?_
              refine lv_icmp_eq (tgt := 84) hx hb d_M_source_73 (by decide) (fun hc => ?_) (fun hc => ?_)
              · replace h := it_t h hc
                refine lv_bipush (v := (-103 : Int32)) hx hb d_M_source_84 (by decide) ?_
                exact rf_I (w := (fun z => wM g ca a z ++ tl)) h hx hb hr hlk hK hP hD hS d_M_source_86
              · replace h := it_f h hc
                refine lv_aload_n hx hb d_M_source_76 rfl (lv_at hl 0 rfl) ?_
                refine lv_iload_n hx hb d_M_source_77 rfl (lv_at hl 3 rfl) ?_
                obtain ⟨r9, s10, hr9, h⟩ := bd_some h
                refine go_VI (rest := []) ⟨hx, hb, hml, hown, hB⟩ nwM_ok (c_M_isTruth l D ca g a tl N σ s10 x3 r9 hr9) (cwx_V hB m_1080 kw_M_isTruth ⟨by rw [hR]; decide, by rw [hR]; decide⟩ rfl rfl) (va_recv hK hP (ci := 1) (q0 := 0) rfl rfl) hN hK hP hD hS hA rfl hl.1 rfl (Nat.le_of_ble_eq_true rfl) d_M_source_78 ⟨by rw [hR]; exact Nat.le_of_ble_eq_true rfl, by rw [hR]; exact Nat.le_of_ble_eq_true rfl⟩ (fun H locs hP hD hS => ?_)
                refine lv_if_ne (tgt := 87) hx hb d_M_source_81 (by decide) (fun hc => ?_) (fun hc => ?_)
                · replace h := it_f h hc
                  exact L87 s10 x1 x2 x3 H locs ls hP hD hS (lv_sub hl [0, 1, 2, 3] rfl) h
                · replace h := it_t h hc
                  refine lv_bipush (v := (-103 : Int32)) hx hb d_M_source_84 (by decide) ?_
                  exact rf_I (w := (fun z => wM g ca a z ++ tl)) h hx hb hr hlk hK hP hD hS d_M_source_86
          refine lv_if_ne (tgt := 67) hx hb d_M_source_59 (by decide) (fun hc => ?_) (fun hc => ?_)
          · replace h := it_f h hc
            exact L67 σ x1 x2 x3 H locs ls hP hD hS (lv_sub hl [0, 1, 2, 3] rfl) h
          · replace h := it_t h hc
            refine lv_iload_n hx hb d_M_source_62 rfl (lv_at hl 3 rfl) ?_
            refine lv_iconst (v := (-1 : Int32)) hx hb d_M_source_63 (by decide) ?_
            refine lv_icmp_ne (tgt := 84) hx hb d_M_source_64 (by decide) (fun hc => ?_) (fun hc => ?_)
            · replace h := it_f h hc
              refine lv_bipush (v := (-103 : Int32)) hx hb d_M_source_84 (by decide) ?_
              exact rf_I (w := (fun z => wM g ca a z ++ tl)) h hx hb hr hlk hK hP hD hS d_M_source_86
            · replace h := it_t h hc
              exact L67 σ x1 x2 x3 H locs ls hP hD hS (lv_sub hl [0, 1, 2, 3] rfl) h
        refine lv_if_ne (tgt := 58) hx hb d_M_source_51 (by decide) (fun hc => ?_) (fun hc => ?_)
        · replace h := it_f h hc
          exact L58 s4 x1 x2 x3 H locs ls hP hD hS (lv_sub hl [0, 1, 2, 3] rfl) h
        · replace h := it_t h hc
          refine lv_iload_n hx hb d_M_source_54 rfl (lv_at hl 2 rfl) ?_
          refine lv_if_ne (tgt := 84) hx hb d_M_source_55 (by decide) (fun hc => ?_) (fun hc => ?_)
          · replace h := it_f h hc
            refine lv_bipush (v := (-103 : Int32)) hx hb d_M_source_84 (by decide) ?_
            exact rf_I (w := (fun z => wM g ca a z ++ tl)) h hx hb hr hlk hK hP hD hS d_M_source_86
          · replace h := it_t h hc
            exact L58 s4 x1 x2 x3 H locs ls hP hD hS (lv_sub hl [0, 1, 2, 3] rfl) h
      · replace h := it_t h hc
        refine lv_bipush (v := (-102 : Int32)) hx hb d_M_source_44 (by decide) ?_
        exact rf_I (w := (fun z => wM g ca a z ++ tl)) h hx hb hr hlk hK hP hD hS d_M_source_46
    refine lv_icmp_eq (tgt := 32) hx hb d_M_source_18 (by decide) (fun hc => ?_) (fun hc => ?_)
    · replace h := it_t h hc
      exact L32 s2 x1 x2 x3 H locs ls hP hD hS (lv_sub hl [0, 1, 2, 3] rfl) h
    · replace h := it_f h hc
      refine lv_aload_n hx hb d_M_source_21 rfl (lv_at hl 0 rfl) ?_
      refine lv_iload_n hx hb d_M_source_22 rfl (lv_at hl 3 rfl) ?_
      obtain ⟨r11, s12, hr11, h⟩ := bd_some h
      refine go_VI (rest := []) ⟨hx, hb, hml, hown, hB⟩ nwM_ok (c_M_isExpression l D ca g a tl N s2 s12 x3 r11 hr11) (cwx_V hB m_1071 kw_M_isExpression ⟨by rw [hR]; decide, by rw [hR]; decide⟩ rfl rfl) (va_recv hK hP (ci := 1) (q0 := 0) rfl rfl) hN hK hP hD hS hA rfl hl.1 rfl (Nat.le_of_ble_eq_true rfl) d_M_source_23 ⟨by rw [hR]; exact Nat.le_of_ble_eq_true rfl, by rw [hR]; exact Nat.le_of_ble_eq_true rfl⟩ (fun H locs hP hD hS => ?_)
      refine lv_if_ne (tgt := 32) hx hb d_M_source_26 (by decide) (fun hc => ?_) (fun hc => ?_)
      · replace h := it_f h hc
        exact L32 s12 x1 x2 x3 H locs ls hP hD hS (lv_sub hl [0, 1, 2, 3] rfl) h
      · replace h := it_t h hc
        refine lv_bipush (v := (-101 : Int32)) hx hb d_M_source_29 (by decide) ?_
        exact rf_I (w := (fun z => wM g ca a z ++ tl)) h hx hb hr hlk hK hP hD hS d_M_source_31
set_option maxRecDepth 100000 in
set_option maxHeartbeats 4000000 in
theorem c_M_condition (l : Launch) (D : va_G) (ca : Nat → ClassId) (g : Bool) (a : Nat → Nat) (tl : va_W) (N : Nat) (σ σ' : St) (x1 : Int32) (x2 : Int32) (r : Int32) (h : f_M_condition N σ x1 x2 = some (r, σ')) : CtI l y_M_condition ws_M_condition rm_M_condition 0 0 D vCl (tyM ca) nwM [.ref (a 0), .int x1, .int x2] (wM g ca a σ ++ tl) (wM g ca a σ' ++ tl) r := by
  refine en_I (ws' := BIG) (by decide +kernel) rfl (Nat.le_of_ble_eq_true rfl) ?_
  intro p e s m below meth c A ls R args H locs hR hx hb hr hlk hml hown hB hK hN hP hD hA hS hl
  have hl : lv_has ls 3 [(0, .ref (a 0)), (1, .int x1), (2, .int x2)] := hl
  unfold f_M_condition at h
  refine lv_aload_n hx hb d_M_condition_0 rfl (lv_at hl 0 rfl) ?_
  refine lv_iload_n hx hb d_M_condition_1 rfl (lv_at hl 2 rfl) ?_
  obtain ⟨r1, s2, hr1, h⟩ := bd_some h
  refine go_VI (rest := []) ⟨hx, hb, hml, hown, hB⟩ nwM_ok (c_M_isExpression l D ca g a tl N σ s2 x2 r1 hr1) (cwx_V hB m_1071 kw_M_isExpression ⟨by rw [hR]; decide, by rw [hR]; decide⟩ rfl rfl) (va_recv hK hP (ci := 1) (q0 := 0) rfl rfl) hN hK hP hD hS hA rfl hl.1 rfl (Nat.le_of_ble_eq_true rfl) d_M_condition_2 ⟨by rw [hR]; exact Nat.le_of_ble_eq_true rfl, by rw [hR]; exact Nat.le_of_ble_eq_true rfl⟩ (fun H locs hP hD hS => ?_)
  refine lv_if_ne (tgt := 11) hx hb d_M_condition_5 (by decide) (fun hc => ?_) (fun hc => ?_)
  · replace h := it_f h hc
    refine lv_iload_n hx hb d_M_condition_11 rfl (lv_at hl 1 rfl) ?_
    refine lv_i2l hx hb d_M_condition_12 rfl ?_
    refine lv_lconst (v := (0 : Int64)) hx hb d_M_condition_13 (by decide) ?_
    refine lv_lconst (v := (1 : Int64)) hx hb d_M_condition_14 (by decide) ?_
    obtain ⟨r3, s4, hr3, h⟩ := bd_some h
    refine go_SI (rest := []) ⟨hx, hb, hml, hown, hB⟩ nwM_ok (c_M_within l D ca g a tl N s2 s4 (x1).toInt64 (0 : Int64) (1 : Int64) r3 hr3) (cwx_S hB m_1032 kw_M_within ⟨by rw [hR]; decide, by rw [hR]; decide⟩ rfl rfl) hN hK hP hD hS hA rfl hl.1 rfl (Nat.le_of_ble_eq_true rfl) d_M_condition_15 ⟨by rw [hR]; exact Nat.le_of_ble_eq_true rfl, by rw [hR]; exact Nat.le_of_ble_eq_true rfl⟩ (fun H locs hP hD hS => ?_)
    refine lv_if_ne (tgt := 24) hx hb d_M_condition_18 (by decide) (fun hc => ?_) (fun hc => ?_)
    · replace h := it_f h hc
      refine lv_aload_n hx hb d_M_condition_24 rfl (lv_at hl 0 rfl) ?_
      refine lv_iload_n hx hb d_M_condition_25 rfl (lv_at hl 2 rfl) ?_
      obtain ⟨r5, s6, hr5, h⟩ := bd_some h
      refine go_VI (rest := []) ⟨hx, hb, hml, hown, hB⟩ nwM_ok (c_M_isTruth l D ca g a tl N s4 s6 x2 r5 hr5) (cwx_V hB m_1080 kw_M_isTruth ⟨by rw [hR]; decide, by rw [hR]; decide⟩ rfl rfl) (va_recv hK hP (ci := 1) (q0 := 0) rfl rfl) hN hK hP hD hS hA rfl hl.1 rfl (Nat.le_of_ble_eq_true rfl) d_M_condition_26 ⟨by rw [hR]; exact Nat.le_of_ble_eq_true rfl, by rw [hR]; exact Nat.le_of_ble_eq_true rfl⟩ (fun H locs hP hD hS => ?_)
      refine lv_if_ne (tgt := 35) hx hb d_M_condition_29 (by decide) (fun hc => ?_) (fun hc => ?_)
      · replace h := it_f h hc
        refine lv_aload_n hx hb d_M_condition_35 rfl (lv_at hl 0 rfl) ?_
        refine lv_iload_n hx hb d_M_condition_36 rfl (lv_at hl 1 rfl) ?_
        have L48 : ∀ (σ : St) (x1 : Int32) (x2 : Int32) (t0 : Int32) (H : Heap) (locs : List Loc) (ls : Array Slot), va_P D vCl (wM g ca a σ ++ tl) H → va_D A (wM g ca a σ ++ tl) → va_S A s.heap H locs → lv_has ls 3 [(0, .ref (a 0)), (1, .int x1), (2, .int x2)] → f_M_condition_48 N σ x1 x2 t0 = some (r, σ') → W p l e R s m args below meth c H locs 0 0 (MQ below (qb_QI D vCl (tyM ca) (wM g ca a σ' ++ tl) A r) args s 0 0 A) (F0 m 48 ls [.int t0, .ref (a 0)]) := by
          intro σ x1 x2 t0 H locs ls hP hD hS hl h
          unfold f_M_condition_48 at h
          obtain ⟨s7, es7, h⟩ := nm_some h
          refine Mp_0_20 es7 hx hb hB hown (hB _ m_881) hK hP hD hS d_M_condition_48 (fun H locs hP hD hS => ?_)
          refine lv_aload_n hx hb d_M_condition_51 rfl (lv_at hl 0 rfl) ?_
          refine lv_iload_n hx hb d_M_condition_52 rfl (lv_at hl 1 rfl) ?_
          refine lv_iconst (v := (1 : Int32)) hx hb d_M_condition_53 (by decide) ?_
          refine lv_icmp_ne (tgt := 61) hx hb d_M_condition_54 (by decide) (fun hc => ?_) (fun hc => ?_)
          · replace h := it_f h hc
            refine lv_aload_n hx hb d_M_condition_61 rfl (lv_at hl 0 rfl) ?_
            refine Mg_0_21 hx hb hB hown (hB _ m_882) hK hP d_M_condition_62 ?_
            obtain ⟨s8, es8, h⟩ := nm_some h
            refine Mp_0_21 es8 hx hb hB hown (hB _ m_882) hK hP hD hS d_M_condition_65 (fun H locs hP hD hS => ?_)
            refine lv_iconst (v := (1 : Int32)) hx hb d_M_condition_68 (by decide) ?_
            exact rf_I (w := (fun z => wM g ca a z ++ tl)) h hx hb hr hlk hK hP hD hS d_M_condition_69
          · replace h := it_t h hc
            refine lv_iload_n hx hb d_M_condition_57 rfl (lv_at hl 2 rfl) ?_
            refine lv_goto (tgt := 65) hx hb d_M_condition_58 (by decide) ?_
            obtain ⟨s9, es9, h⟩ := nm_some h
            refine Mp_0_21 es9 hx hb hB hown (hB _ m_882) hK hP hD hS d_M_condition_65 (fun H locs hP hD hS => ?_)
            refine lv_iconst (v := (1 : Int32)) hx hb d_M_condition_68 (by decide) ?_
            exact rf_I (w := (fun z => wM g ca a z ++ tl)) h hx hb hr hlk hK hP hD hS d_M_condition_69
        refine lv_if_ne (tgt := 44) hx hb d_M_condition_37 (by decide) (fun hc => ?_) (fun hc => ?_)
        · replace h := it_f h hc
          refine lv_aload_n hx hb d_M_condition_44 rfl (lv_at hl 0 rfl) ?_
          refine Mg_0_20 hx hb hB hown (hB _ m_881) hK hP d_M_condition_45 ?_
          exact L48 s6 x1 x2 (gi s6 4) H locs ls hP hD hS (lv_sub hl [0, 1, 2] rfl) h
        · replace h := it_t h hc
          refine lv_iload_n hx hb d_M_condition_40 rfl (lv_at hl 2 rfl) ?_
          refine lv_goto (tgt := 48) hx hb d_M_condition_41 (by decide) ?_
          exact L48 s6 x1 x2 x2 H locs ls hP hD hS (lv_sub hl [0, 1, 2] rfl) h
      · replace h := it_t h hc
        refine lv_bipush (v := (-103 : Int32)) hx hb d_M_condition_32 (by decide) ?_
        exact rf_I (w := (fun z => wM g ca a z ++ tl)) h hx hb hr hlk hK hP hD hS d_M_condition_34
    · replace h := it_t h hc
      refine lv_bipush (v := (-102 : Int32)) hx hb d_M_condition_21 (by decide) ?_
      exact rf_I (w := (fun z => wM g ca a z ++ tl)) h hx hb hr hlk hK hP hD hS d_M_condition_23
  · replace h := it_t h hc
    refine lv_bipush (v := (-101 : Int32)) hx hb d_M_condition_8 (by decide) ?_
    exact rf_I (w := (fun z => wM g ca a z ++ tl)) h hx hb hr hlk hK hP hD hS d_M_condition_10
set_option maxRecDepth 100000 in
set_option maxHeartbeats 4000000 in
theorem c_M_group (l : Launch) (D : va_G) (ca : Nat → ClassId) (g : Bool) (a : Nat → Nat) (tl : va_W) (N : Nat) (σ σ' : St) (x1 : Int32) (r : Int32) (h : f_M_group N σ x1 = some (r, σ')) : CtI l y_M_group ws_M_group rm_M_group 0 0 D vCl (tyM ca) nwM [.ref (a 0), .int x1] (wM g ca a σ ++ tl) (wM g ca a σ' ++ tl) r := by
  refine en_I (ws' := BIG) (by decide +kernel) rfl (Nat.le_of_ble_eq_true rfl) ?_
  intro p e s m below meth c A ls R args H locs hR hx hb hr hlk hml hown hB hK hN hP hD hA hS hl
  have hl : lv_has ls 2 [(0, .ref (a 0)), (1, .int x1)] := hl
  unfold f_M_group at h
  refine lv_aload_n hx hb d_M_group_0 rfl (lv_at hl 0 rfl) ?_
  refine lv_iload_n hx hb d_M_group_1 rfl (lv_at hl 1 rfl) ?_
  obtain ⟨r1, s2, hr1, h⟩ := bd_some h
  refine go_VI (rest := []) ⟨hx, hb, hml, hown, hB⟩ nwM_ok (c_M_isExpression l D ca g a tl N σ s2 x1 r1 hr1) (cwx_V hB m_1071 kw_M_isExpression ⟨by rw [hR]; decide, by rw [hR]; decide⟩ rfl rfl) (va_recv hK hP (ci := 1) (q0 := 0) rfl rfl) hN hK hP hD hS hA rfl hl.1 rfl (Nat.le_of_ble_eq_true rfl) d_M_group_2 ⟨by rw [hR]; exact Nat.le_of_ble_eq_true rfl, by rw [hR]; exact Nat.le_of_ble_eq_true rfl⟩ (fun H locs hP hD hS => ?_)
  refine lv_if_ne (tgt := 11) hx hb d_M_group_5 (by decide) (fun hc => ?_) (fun hc => ?_)
  · replace h := it_f h hc
    refine lv_aload_n hx hb d_M_group_11 rfl (lv_at hl 0 rfl) ?_
    refine lv_iload_n hx hb d_M_group_12 rfl (lv_at hl 1 rfl) ?_
    obtain ⟨r3, s4, hr3, h⟩ := bd_some h
    refine go_VI (rest := []) ⟨hx, hb, hml, hown, hB⟩ nwM_ok (c_M_isTruth l D ca g a tl N s2 s4 x1 r3 hr3) (cwx_V hB m_1080 kw_M_isTruth ⟨by rw [hR]; decide, by rw [hR]; decide⟩ rfl rfl) (va_recv hK hP (ci := 1) (q0 := 0) rfl rfl) hN hK hP hD hS hA rfl hl.1 rfl (Nat.le_of_ble_eq_true rfl) d_M_group_13 ⟨by rw [hR]; exact Nat.le_of_ble_eq_true rfl, by rw [hR]; exact Nat.le_of_ble_eq_true rfl⟩ (fun H locs hP hD hS => ?_)
    refine lv_if_eq (tgt := 22) hx hb d_M_group_16 (by decide) (fun hc => ?_) (fun hc => ?_)
    · replace h := it_t h hc
      refine lv_aload_n hx hb d_M_group_22 rfl (lv_at hl 0 rfl) ?_
      refine Mg_0_22 hx hb hB hown (hB _ m_883) hK hP d_M_group_23 ?_
      refine lv_iconst (v := (4 : Int32)) hx hb d_M_group_26 (by decide) ?_
      refine lv_icmp_ne (tgt := 33) hx hb d_M_group_27 (by decide) (fun hc => ?_) (fun hc => ?_)
      · replace h := it_f h hc
        refine lv_aload_n hx hb d_M_group_33 rfl (lv_at hl 0 rfl) ?_
        refine Mg_0_23 hx hb hB hown (hB _ m_884) hK hP d_M_group_34 ?_
        refine lv_aload_n hx hb d_M_group_37 rfl (lv_at hl 0 rfl) ?_
        refine Mg_0_22 hx hb hB hown (hB _ m_883) hK hP d_M_group_38 ?_
        refine lv_iload_n hx hb d_M_group_41 rfl (lv_at hl 1 rfl) ?_
        obtain ⟨hi, h⟩ := ckb_some h
        obtain ⟨s5, es5, h⟩ := nm_some h
        refine Ms_17 es5 hx hb hK hP hD hS hi d_M_group_42 (fun H locs hP hD hS => ?_)
        refine lv_aload_n hx hb d_M_group_43 rfl (lv_at hl 0 rfl) ?_
        refine lv_dup hx hb d_M_group_44 rfl ?_
        refine Mg_0_22 hx hb hB hown (hB _ m_883) hK hP d_M_group_45 ?_
        refine lv_iconst (v := (1 : Int32)) hx hb d_M_group_48 (by decide) ?_
        refine lv_iadd hx hb d_M_group_49 ?_
        obtain ⟨s6, es6, h⟩ := nm_some h
        refine Mp_0_22 es6 hx hb hB hown (hB _ m_883) hK hP hD hS d_M_group_50 (fun H locs hP hD hS => ?_)
        refine lv_aload_n hx hb d_M_group_53 rfl (lv_at hl 0 rfl) ?_
        refine Mg_0_22 hx hb hB hown (hB _ m_883) hK hP d_M_group_54 ?_
        exact rf_I (w := (fun z => wM g ca a z ++ tl)) h hx hb hr hlk hK hP hD hS d_M_group_57
      · replace h := it_t h hc
        refine lv_bipush (v := (-104 : Int32)) hx hb d_M_group_30 (by decide) ?_
        exact rf_I (w := (fun z => wM g ca a z ++ tl)) h hx hb hr hlk hK hP hD hS d_M_group_32
    · replace h := it_f h hc
      refine lv_bipush (v := (-103 : Int32)) hx hb d_M_group_19 (by decide) ?_
      exact rf_I (w := (fun z => wM g ca a z ++ tl)) h hx hb hr hlk hK hP hD hS d_M_group_21
  · replace h := it_t h hc
    refine lv_bipush (v := (-101 : Int32)) hx hb d_M_group_8 (by decide) ?_
    exact rf_I (w := (fun z => wM g ca a z ++ tl)) h hx hb hr hlk hK hP hD hS d_M_group_10
set_option maxRecDepth 100000 in
set_option maxHeartbeats 4000000 in
theorem c_M_item (l : Launch) (D : va_G) (ca : Nat → ClassId) (g : Bool) (a : Nat → Nat) (tl : va_W) (N : Nat) (σ σ' : St) (x1 : Int32) (r : Int32) (h : f_M_item N σ x1 = some (r, σ')) : CtI l y_M_item ws_M_item rm_M_item 0 0 D vCl (tyM ca) nwM [.ref (a 0), .int x1] (wM g ca a σ ++ tl) (wM g ca a σ' ++ tl) r := by
  refine en_I (ws' := BIG) (by decide +kernel) rfl (Nat.le_of_ble_eq_true rfl) ?_
  intro p e s m below meth c A ls R args H locs hR hx hb hr hlk hml hown hB hK hN hP hD hA hS hl
  have hl : lv_has ls 2 [(0, .ref (a 0)), (1, .int x1)] := hl
  unfold f_M_item at h
  refine lv_aload_n hx hb d_M_item_0 rfl (lv_at hl 0 rfl) ?_
  refine lv_iload_n hx hb d_M_item_1 rfl (lv_at hl 1 rfl) ?_
  obtain ⟨r1, s2, hr1, h⟩ := bd_some h
  refine go_VI (rest := []) ⟨hx, hb, hml, hown, hB⟩ nwM_ok (c_M_isExpression l D ca g a tl N σ s2 x1 r1 hr1) (cwx_V hB m_1071 kw_M_isExpression ⟨by rw [hR]; decide, by rw [hR]; decide⟩ rfl rfl) (va_recv hK hP (ci := 1) (q0 := 0) rfl rfl) hN hK hP hD hS hA rfl hl.1 rfl (Nat.le_of_ble_eq_true rfl) d_M_item_2 ⟨by rw [hR]; exact Nat.le_of_ble_eq_true rfl, by rw [hR]; exact Nat.le_of_ble_eq_true rfl⟩ (fun H locs hP hD hS => ?_)
  refine lv_if_ne (tgt := 11) hx hb d_M_item_5 (by decide) (fun hc => ?_) (fun hc => ?_)
  · replace h := it_f h hc
    refine lv_aload_n hx hb d_M_item_11 rfl (lv_at hl 0 rfl) ?_
    refine lv_iload_n hx hb d_M_item_12 rfl (lv_at hl 1 rfl) ?_
    obtain ⟨r3, s4, hr3, h⟩ := bd_some h
    refine go_VI (rest := []) ⟨hx, hb, hml, hown, hB⟩ nwM_ok (c_M_isTruth l D ca g a tl N s2 s4 x1 r3 hr3) (cwx_V hB m_1080 kw_M_isTruth ⟨by rw [hR]; decide, by rw [hR]; decide⟩ rfl rfl) (va_recv hK hP (ci := 1) (q0 := 0) rfl rfl) hN hK hP hD hS hA rfl hl.1 rfl (Nat.le_of_ble_eq_true rfl) d_M_item_13 ⟨by rw [hR]; exact Nat.le_of_ble_eq_true rfl, by rw [hR]; exact Nat.le_of_ble_eq_true rfl⟩ (fun H locs hP hD hS => ?_)
    refine lv_if_eq (tgt := 22) hx hb d_M_item_16 (by decide) (fun hc => ?_) (fun hc => ?_)
    · replace h := it_t h hc
      refine lv_aload_n hx hb d_M_item_22 rfl (lv_at hl 0 rfl) ?_
      refine Mg_0_24 hx hb hB hown (hB _ m_885) hK hP d_M_item_23 ?_
      refine lv_bipush (v := (6 : Int32)) hx hb d_M_item_26 (by decide) ?_
      refine lv_icmp_ne (tgt := 34) hx hb d_M_item_28 (by decide) (fun hc => ?_) (fun hc => ?_)
      · replace h := it_f h hc
        refine lv_aload_n hx hb d_M_item_34 rfl (lv_at hl 0 rfl) ?_
        refine Mg_0_25 hx hb hB hown (hB _ m_886) hK hP d_M_item_35 ?_
        refine lv_aload_n hx hb d_M_item_38 rfl (lv_at hl 0 rfl) ?_
        refine Mg_0_24 hx hb hB hown (hB _ m_885) hK hP d_M_item_39 ?_
        refine lv_iload_n hx hb d_M_item_42 rfl (lv_at hl 1 rfl) ?_
        obtain ⟨hi, h⟩ := ckb_some h
        obtain ⟨s5, es5, h⟩ := nm_some h
        refine Ms_18 es5 hx hb hK hP hD hS hi d_M_item_43 (fun H locs hP hD hS => ?_)
        refine lv_aload_n hx hb d_M_item_44 rfl (lv_at hl 0 rfl) ?_
        refine lv_dup hx hb d_M_item_45 rfl ?_
        refine Mg_0_24 hx hb hB hown (hB _ m_885) hK hP d_M_item_46 ?_
        refine lv_iconst (v := (1 : Int32)) hx hb d_M_item_49 (by decide) ?_
        refine lv_iadd hx hb d_M_item_50 ?_
        obtain ⟨s6, es6, h⟩ := nm_some h
        refine Mp_0_24 es6 hx hb hB hown (hB _ m_885) hK hP hD hS d_M_item_51 (fun H locs hP hD hS => ?_)
        refine lv_aload_n hx hb d_M_item_54 rfl (lv_at hl 0 rfl) ?_
        refine Mg_0_24 hx hb hB hown (hB _ m_885) hK hP d_M_item_55 ?_
        refine lv_iconst (v := (1 : Int32)) hx hb d_M_item_58 (by decide) ?_
        refine lv_isub hx hb d_M_item_59 ?_
        exact rf_I (w := (fun z => wM g ca a z ++ tl)) h hx hb hr hlk hK hP hD hS d_M_item_60
      · replace h := it_t h hc
        refine lv_bipush (v := (-104 : Int32)) hx hb d_M_item_31 (by decide) ?_
        exact rf_I (w := (fun z => wM g ca a z ++ tl)) h hx hb hr hlk hK hP hD hS d_M_item_33
    · replace h := it_f h hc
      refine lv_bipush (v := (-103 : Int32)) hx hb d_M_item_19 (by decide) ?_
      exact rf_I (w := (fun z => wM g ca a z ++ tl)) h hx hb hr hlk hK hP hD hS d_M_item_21
  · replace h := it_t h hc
    refine lv_bipush (v := (-101 : Int32)) hx hb d_M_item_8 (by decide) ?_
    exact rf_I (w := (fun z => wM g ca a z ++ tl)) h hx hb hr hlk hK hP hD hS d_M_item_10
