set_option maxRecDepth 100000 in
set_option maxHeartbeats 4000000 in
theorem c_T_addTable (l : Launch) (D : va_G) (ca : Nat → ClassId) (g : Bool) (a : Nat → Nat) (tl : va_W) (N : Nat) (σ σ' : St) (x1 : Int32) (r : Int32) (h : f_T_addTable N σ x1 = some (r, σ')) : CtI l y_T_addTable ws_T_addTable rm_T_addTable 0 0 D vCl (tyX ca) nwX [.ref (a 1), .int x1] (wX g ca a σ ++ tl) (wX g ca a σ' ++ tl) r := by
  refine en_I (ws' := BIG) (by decide +kernel) rfl (Nat.le_of_ble_eq_true rfl) ?_
  intro p e s m below meth c A ls R args H locs hR hx hb hr hlk hml hown hB hK hN hP hD hA hS hl
  have hl : lv_has ls 2 [(0, .ref (a 1)), (1, .int x1)] := hl
  unfold f_T_addTable at h
  refine lv_aload_n hx hb d_T_addTable_0 rfl (lv_at hl 0 rfl) ?_
  refine Xg_1_1 hx hb hB hown (hB _ m_102) hK hP d_T_addTable_1 ?_
  refine lv_aload_n hx hb d_T_addTable_4 rfl (lv_at hl 0 rfl) ?_
  refine Xg_1_0 hx hb hB hown (hB _ m_100) hK hP d_T_addTable_5 ?_
  refine lv_iload_n hx hb d_T_addTable_8 rfl (lv_at hl 1 rfl) ?_
  obtain ⟨hi, h⟩ := ckb_some h
  obtain ⟨s1, es1, h⟩ := nm_some h
  refine Xs_2 es1 hx hb hK hP hD hS hi d_T_addTable_9 (fun H locs hP hD hS => ?_)
  refine lv_aload_n hx hb d_T_addTable_10 rfl (lv_at hl 0 rfl) ?_
  refine lv_dup hx hb d_T_addTable_11 rfl ?_
  refine Xg_1_0 hx hb hB hown (hB _ m_100) hK hP d_T_addTable_12 ?_
  refine lv_iconst (v := (1 : Int32)) hx hb d_T_addTable_15 (by decide) ?_
  refine lv_iadd hx hb d_T_addTable_16 ?_
  obtain ⟨s2, es2, h⟩ := nm_some h
  refine Xp_1_0 es2 hx hb hB hown (hB _ m_100) hK hP hD hS d_T_addTable_17 (fun H locs hP hD hS => ?_)
  refine lv_aload_n hx hb d_T_addTable_20 rfl (lv_at hl 0 rfl) ?_
  refine Xg_1_0 hx hb hB hown (hB _ m_100) hK hP d_T_addTable_21 ?_
  refine lv_iconst (v := (1 : Int32)) hx hb d_T_addTable_24 (by decide) ?_
  refine lv_isub hx hb d_T_addTable_25 ?_
  exact rf_I (w := (fun z => wX g ca a z ++ tl)) h hx hb hr hlk hK hP hD hS d_T_addTable_26
set_option maxRecDepth 100000 in
set_option maxHeartbeats 4000000 in
theorem c_Q_table (l : Launch) (D : va_G) (ca : Nat → ClassId) (g : Bool) (a : Nat → Nat) (tl : va_W) (N : Nat) (σ σ' : St) (x1 : Int32) (r : Int32) (h : f_Q_table N σ x1 = some (r, σ')) : CtI l y_Q_table ws_Q_table rm_Q_table 0 0 D vCl (tyX ca) nwX [.ref (a 0), .int x1] (wX g ca a σ ++ tl) (wX g ca a σ' ++ tl) r := by
  refine en_I (ws' := BIG) (by decide +kernel) rfl (Nat.le_of_ble_eq_true rfl) ?_
  intro p e s m below meth c A ls R args H locs hR hx hb hr hlk hml hown hB hK hN hP hD hA hS hl
  have hl : lv_has ls 2 [(0, .ref (a 0)), (1, .int x1)] := hl
  unfold f_Q_table at h
  refine lv_iload_n hx hb d_Q_table_0 rfl (lv_at hl 1 rfl) ?_
  refine lv_iconst (v := (1 : Int32)) hx hb d_Q_table_1 (by decide) ?_
  refine lv_icmp_lt (tgt := 10) hx hb d_Q_table_2 (by decide) (fun hc => ?_) (fun hc => ?_)
  · replace h := it_t h hc
    refine lv_bipush (v := (-102 : Int32)) hx hb d_Q_table_10 (by decide) ?_
    exact rf_I (w := (fun z => wX g ca a z ++ tl)) h hx hb hr hlk hK hP hD hS d_Q_table_12
  · replace h := it_f h hc
    refine lv_iload_n hx hb d_Q_table_5 rfl (lv_at hl 1 rfl) ?_
    refine lv_iconst (v := (4 : Int32)) hx hb d_Q_table_6 (by decide) ?_
    refine lv_icmp_le (tgt := 13) hx hb d_Q_table_7 (by decide) (fun hc => ?_) (fun hc => ?_)
    · replace h := it_t h hc
      refine lv_aload_n hx hb d_Q_table_13 rfl (lv_at hl 0 rfl) ?_
      refine Xg_0_0 hx hb hB hown (hB _ m_389) hK hP d_Q_table_14 ?_
      refine Xg_1_0 hx hb hB hown (hB _ m_101) hK hP d_Q_table_17 ?_
      refine lv_bipush (v := (6 : Int32)) hx hb d_Q_table_20 (by decide) ?_
      refine lv_icmp_lt (tgt := 28) hx hb d_Q_table_22 (by decide) (fun hc => ?_) (fun hc => ?_)
      · replace h := it_t h hc
        refine lv_aload_n hx hb d_Q_table_28 rfl (lv_at hl 0 rfl) ?_
        refine Xg_0_0 hx hb hB hown (hB _ m_389) hK hP d_Q_table_29 ?_
        refine lv_iload_n hx hb d_Q_table_32 rfl (lv_at hl 1 rfl) ?_
        obtain ⟨r1, s2, hr1, h⟩ := bd_some h
        refine go_VI (rest := []) ⟨hx, hb, hml, hown, hB⟩ nwX_ok (c_T_addTable l D ca g a tl N σ s2 x1 r1 hr1) (cwx_V hB m_409 kw_T_addTable ⟨by rw [hR]; decide, by rw [hR]; decide⟩ rfl rfl) (va_recv hK hP (ci := 9) (q0 := 1) rfl rfl) hN hK hP hD hS hA rfl hl.1 rfl (Nat.le_of_ble_eq_true rfl) d_Q_table_33 ⟨by rw [hR]; exact Nat.le_of_ble_eq_true rfl, by rw [hR]; exact Nat.le_of_ble_eq_true rfl⟩ (fun H locs hP hD hS => ?_)
        exact rf_I (w := (fun z => wX g ca a z ++ tl)) h hx hb hr hlk hK hP hD hS d_Q_table_36
      · replace h := it_f h hc
        refine lv_bipush (v := (-104 : Int32)) hx hb d_Q_table_25 (by decide) ?_
        exact rf_I (w := (fun z => wX g ca a z ++ tl)) h hx hb hr hlk hK hP hD hS d_Q_table_27
    · replace h := it_f h hc
      refine lv_bipush (v := (-102 : Int32)) hx hb d_Q_table_10 (by decide) ?_
      exact rf_I (w := (fun z => wX g ca a z ++ tl)) h hx hb hr hlk hK hP hD hS d_Q_table_12
set_option maxRecDepth 100000 in
set_option maxHeartbeats 4000000 in
theorem c_T_has (l : Launch) (D : va_G) (ca : Nat → ClassId) (g : Bool) (a : Nat → Nat) (tl : va_W) (N : Nat) (σ σ' : St) (x1 : Int32) (r : Int32) (h : f_T_has N σ x1 = some (r, σ')) : CtI l y_T_has ws_T_has rm_T_has 0 0 D vCl (tyX ca) nwX [.ref (a 1), .int x1] (wX g ca a σ ++ tl) (wX g ca a σ' ++ tl) r := by
  refine en_Z (ws' := BIG) (by decide +kernel) rfl (Nat.le_of_ble_eq_true rfl) ?_
  intro p e s m below meth c A ls R args H locs hR hx hb hr hlk hml hown hB hK hN hP hD hA hS hl
  have hl : lv_has ls 2 [(0, .ref (a 1)), (1, .int x1)] := hl
  unfold f_T_has at h
  refine lv_iload_n hx hb d_T_has_0 rfl (lv_at hl 1 rfl) ?_
  refine lv_if_lt (tgt := 16) hx hb d_T_has_1 (by decide) (fun hc => ?_) (fun hc => ?_)
  · replace h := it_t h hc
    refine lv_iconst (v := (0 : Int32)) hx hb d_T_has_16 (by decide) ?_
    exact rf_Z (w := (fun z => wX g ca a z ++ tl)) h hx hb hr hlk hK hP hD hS rfl d_T_has_17
  · replace h := it_f h hc
    refine lv_iload_n hx hb d_T_has_4 rfl (lv_at hl 1 rfl) ?_
    refine lv_aload_n hx hb d_T_has_5 rfl (lv_at hl 0 rfl) ?_
    refine Xg_1_0 hx hb hB hown (hB _ m_100) hK hP d_T_has_6 ?_
    refine lv_icmp_ge (tgt := 16) hx hb d_T_has_9 (by decide) (fun hc => ?_) (fun hc => ?_)
    · replace h := it_t h hc
      refine lv_iconst (v := (0 : Int32)) hx hb d_T_has_16 (by decide) ?_
      exact rf_Z (w := (fun z => wX g ca a z ++ tl)) h hx hb hr hlk hK hP hD hS rfl d_T_has_17
    · replace h := it_f h hc
      refine lv_iconst (v := (1 : Int32)) hx hb d_T_has_12 (by decide) ?_
      refine lv_goto (tgt := 17) hx hb d_T_has_13 (by decide) ?_
      exact rf_Z (w := (fun z => wX g ca a z ++ tl)) h hx hb hr hlk hK hP hD hS rfl d_T_has_17
set_option maxRecDepth 100000 in
set_option maxHeartbeats 4000000 in
theorem c_T_addRow (l : Launch) (D : va_G) (ca : Nat → ClassId) (g : Bool) (a : Nat → Nat) (tl : va_W) (N : Nat) (qt : Nat) (row : Nat → Int64) (σ σ' : St) (x1 : Int32) (x3 : Int32) (r : Int32) (h : f_T_addRow N row σ x1 x3 = some (r, σ')) : CtI l y_T_addRow ws_T_addRow rm_T_addRow 0 0 D vCl (tyX ca) nwX [.ref (a 1), .int x1, .ref qt, .int x3] (wX g ca a σ ++ ((qt, .inl (ca 1, 4, .inr (.inl row))) :: tl)) (wX g ca a σ' ++ ((qt, .inl (ca 1, 4, .inr (.inl row))) :: tl)) r := by
  refine en_I (ws' := BIG) (by decide +kernel) rfl (Nat.le_of_ble_eq_true rfl) ?_
  intro p e s m below meth c A ls R args H locs hR hx hb hr hlk hml hown hB hK hN hP hD hA hS hl
  have hl : lv_has ls 5 [(0, .ref (a 1)), (1, .int x1), (2, .ref qt), (3, .int x3)] := hl
  unfold f_T_addRow at h
  refine lv_iload_n hx hb d_T_addRow_0 rfl (lv_at hl 1 rfl) ?_
  refine lv_bipush (v := (8 : Int32)) hx hb d_T_addRow_1 (by decide) ?_
  refine lv_imul hx hb d_T_addRow_3 ?_
  refine lv_aload_n hx hb d_T_addRow_4 rfl (lv_at hl 0 rfl) ?_
  refine Xg_1_2 hx hb hB hown (hB _ m_105) hK hP d_T_addRow_5 ?_
  refine lv_iload_n hx hb d_T_addRow_8 rfl (lv_at hl 1 rfl) ?_
  obtain ⟨hi, h⟩ := ckb_some h
  refine Xa_3 hx hb hK hP hi d_T_addRow_9 ?_
  refine lv_iadd hx hb d_T_addRow_10 ?_
  refine lv_istore (lv' := [(4, .int ((x1 * (8 : Int32)) + (ga σ 1 (x1).toNatClampNeg))), (0, .ref (a 1)), (1, .int x1), (2, .ref qt), (3, .int x3)]) hx hb d_T_addRow_11 hl (by decide) rfl (fun ls hl => ?_)
  refine lv_aload_n hx hb d_T_addRow_13 rfl (lv_at hl 1 rfl) ?_
  refine Xg_1_4 hx hb hB hown (hB _ m_110) hK hP d_T_addRow_14 ?_
  refine lv_iload hx hb d_T_addRow_17 (lv_at hl 0 rfl) ?_
  refine lv_iload_n hx hb d_T_addRow_19 rfl (lv_at hl 4 rfl) ?_
  obtain ⟨hi, h⟩ := ckb_some h
  obtain ⟨s1, es1, h⟩ := nm_some h
  refine Xs_5 es1 hx hb hK hP hD hS hi d_T_addRow_20 (fun H locs hP hD hS => ?_)
  refine lv_aload_n hx hb d_T_addRow_21 rfl (lv_at hl 3 rfl) ?_
  refine lv_iconst (v := (0 : Int32)) hx hb d_T_addRow_22 (by decide) ?_
  refine lv_aload_n hx hb d_T_addRow_23 rfl (lv_at hl 1 rfl) ?_
  refine Xg_1_3 hx hb hB hown (hB _ m_108) hK hP d_T_addRow_24 ?_
  refine lv_iload hx hb d_T_addRow_27 (lv_at hl 0 rfl) ?_
  refine lv_iconst (v := (4 : Int32)) hx hb d_T_addRow_29 (by decide) ?_
  refine lv_imul hx hb d_T_addRow_30 ?_
  refine lv_iconst (v := (4 : Int32)) hx hb d_T_addRow_31 (by decide) ?_
  obtain ⟨hi, h⟩ := ckc_some h
  obtain ⟨s2, es2, h⟩ := nm_some h
  refine Xcopy_qt es2 hx hb (hml.trans hl.1.symm) hown (hB _ m_433) (hB _ m_435) (hB _ m_434) (hB _ m_83) hK hP hD hS hi (by rw [hR]; exact Nat.le_of_ble_eq_true rfl) (by rw [hR]; exact Nat.le_of_ble_eq_true rfl) d_T_addRow_32 (fun H locs hP hD hS => ?_)
  refine lv_aload_n hx hb d_T_addRow_35 rfl (lv_at hl 1 rfl) ?_
  refine Xg_1_2 hx hb hB hown (hB _ m_105) hK hP d_T_addRow_36 ?_
  refine lv_iload_n hx hb d_T_addRow_39 rfl (lv_at hl 2 rfl) ?_
  refine lv_dup2_11 hx hb d_T_addRow_40 rfl rfl ?_
  obtain ⟨hi, h⟩ := ckb_some h
  refine Xa_3 hx hb hK hP hi d_T_addRow_41 ?_
  refine lv_iconst (v := (1 : Int32)) hx hb d_T_addRow_42 (by decide) ?_
  refine lv_iadd hx hb d_T_addRow_43 ?_
  obtain ⟨hi, h⟩ := ckb_some h
  obtain ⟨s3, es3, h⟩ := nm_some h
  refine Xs_3 es3 hx hb hK hP hD hS hi d_T_addRow_44 (fun H locs hP hD hS => ?_)
  refine lv_aload_n hx hb d_T_addRow_45 rfl (lv_at hl 1 rfl) ?_
  refine Xg_1_2 hx hb hB hown (hB _ m_105) hK hP d_T_addRow_46 ?_
  refine lv_iload_n hx hb d_T_addRow_49 rfl (lv_at hl 2 rfl) ?_
  obtain ⟨hi, h⟩ := ckb_some h
  refine Xa_3 hx hb hK hP hi d_T_addRow_50 ?_
  exact rf_I (w := (fun z => wX g ca a z ++ ((qt, .inl (ca 1, 4, .inr (.inl row))) :: tl))) h hx hb hr hlk hK hP hD hS d_T_addRow_51
set_option maxRecDepth 100000 in
set_option maxHeartbeats 4000000 in
theorem c_Q_isOutside (l : Launch) (D : va_G) (ca : Nat → ClassId) (g : Bool) (a : Nat → Nat) (tl : va_W) (N : Nat) (σ σ' : St) (x0 : Int64) (r : Int32) (h : f_Q_isOutside N σ x0 = some (r, σ')) : CtI l y_Q_isOutside ws_Q_isOutside rm_Q_isOutside 0 0 D vCl (tyX ca) nwX [.long x0] (wX g ca a σ ++ tl) (wX g ca a σ' ++ tl) r := by
  refine en_Z (ws' := BIG) (by decide +kernel) rfl (Nat.le_of_ble_eq_true rfl) ?_
  intro p e s m below meth c A ls R args H locs hR hx hb hr hlk hml hown hB hK hN hP hD hA hS hl
  have hl : lv_has ls 2 [(0, .long x0)] := hl
  unfold f_Q_isOutside at h
  refine lv_lload_n hx hb d_Q_isOutside_0 rfl (lv_at hl 0 rfl) ?_
  refine lv_ldc2 (v := (-1000000000000 : Int64)) hx hb hown (hB _ m_427) d_Q_isOutside_1 ?_
  refine W.lcmp hx hb d_Q_isOutside_4 ?_
  refine lv_if_lt (tgt := 16) hx hb d_Q_isOutside_5 (by decide) (fun hc => ?_) (fun hc => ?_)
  · replace h := it_t h hc
    refine lv_iconst (v := (1 : Int32)) hx hb d_Q_isOutside_16 (by decide) ?_
    refine lv_goto (tgt := 21) hx hb d_Q_isOutside_17 (by decide) ?_
    exact rf_Z (w := (fun z => wX g ca a z ++ tl)) h hx hb hr hlk hK hP hD hS rfl d_Q_isOutside_21
  · replace h := it_f h hc
    refine lv_lload_n hx hb d_Q_isOutside_8 rfl (lv_at hl 0 rfl) ?_
    refine lv_ldc2 (v := (1000000000000 : Int64)) hx hb hown (hB _ m_428) d_Q_isOutside_9 ?_
    refine W.lcmp hx hb d_Q_isOutside_12 ?_
    refine lv_if_le (tgt := 20) hx hb d_Q_isOutside_13 (by decide) (fun hc => ?_) (fun hc => ?_)
    · replace h := it_t h hc
      refine lv_iconst (v := (0 : Int32)) hx hb d_Q_isOutside_20 (by decide) ?_
      exact rf_Z (w := (fun z => wX g ca a z ++ tl)) h hx hb hr hlk hK hP hD hS rfl d_Q_isOutside_21
    · replace h := it_f h hc
      refine lv_iconst (v := (1 : Int32)) hx hb d_Q_isOutside_16 (by decide) ?_
      refine lv_goto (tgt := 21) hx hb d_Q_isOutside_17 (by decide) ?_
      exact rf_Z (w := (fun z => wX g ca a z ++ tl)) h hx hb hr hlk hK hP hD hS rfl d_Q_isOutside_21
set_option maxRecDepth 100000 in
set_option maxHeartbeats 4000000 in
theorem c_Q_insert (l : Launch) (D : va_G) (ca : Nat → ClassId) (g : Bool) (a : Nat → Nat) (tl : va_W) (N : Nat) (σ σ' : St) (x1 : Int32) (x2 : Int64) (x4 : Int64) (x6 : Int64) (x8 : Int64) (x10 : Int32) (r : Int32) (h : f_Q_insert N σ x1 x2 x4 x6 x8 x10 = some (r, σ')) : CtI l y_Q_insert ws_Q_insert rm_Q_insert 1 4 D vCl (tyX ca) nwX [.ref (a 0), .int x1, .long x2, .long x4, .long x6, .long x8, .int x10] (wX g ca a σ ++ tl) (wX g ca a σ' ++ tl) r := by
  refine en_I (ws' := BIG) (by decide +kernel) rfl (Nat.le_of_ble_eq_true rfl) ?_
  intro p e s m below meth c A ls R args H locs hR hx hb hr hlk hml hown hB hK hN hP hD hA hS hl
  have hl : lv_has ls 14 [(0, .ref (a 0)), (1, .int x1), (2, .long x2), (4, .long x4), (6, .long x6), (8, .long x8), (10, .int x10)] := hl
  unfold f_Q_insert at h
  refine lv_aload_n hx hb d_Q_insert_0 rfl (lv_at hl 0 rfl) ?_
  refine Xg_0_0 hx hb hB hown (hB _ m_389) hK hP d_Q_insert_1 ?_
  refine lv_iload_n hx hb d_Q_insert_4 rfl (lv_at hl 1 rfl) ?_
  obtain ⟨r1, s2, hr1, h⟩ := bd_some h
  refine go_VI (rest := []) ⟨hx, hb, hml, hown, hB⟩ nwX_ok (c_T_has l D ca g a tl N σ s2 x1 r1 hr1) (cwx_V hB m_417 kw_T_has ⟨by rw [hR]; decide, by rw [hR]; decide⟩ rfl rfl) (va_recv hK hP (ci := 9) (q0 := 1) rfl rfl) hN hK hP hD hS hA rfl hl.1 rfl (Nat.le_of_ble_eq_true rfl) d_Q_insert_5 ⟨by rw [hR]; exact Nat.le_of_ble_eq_true rfl, by rw [hR]; exact Nat.le_of_ble_eq_true rfl⟩ (fun H locs hP hD hS => ?_)
  refine lv_if_ne (tgt := 14) hx hb d_Q_insert_8 (by decide) (fun hc => ?_) (fun hc => ?_)
  · replace h := it_f h hc
    refine lv_iconst (v := (4 : Int32)) hx hb d_Q_insert_14 (by decide) ?_
    obtain ⟨row3, erow3, h⟩ := nm_some h
    refine Xnew_qt erow3 hx hb (hB _ m_124) hK hP hD hS hA d_Q_insert_15 ?_ ?_ (fun qt H hP hD hS => ?_)
    · rw [hR]; exact Nat.le_of_ble_eq_true rfl
    · rw [hR]; exact Nat.le_of_ble_eq_true rfl
    refine lv_dup hx hb d_Q_insert_17 rfl ?_
    refine lv_iconst (v := (0 : Int32)) hx hb d_Q_insert_18 (by decide) ?_
    refine lv_lload_n hx hb d_Q_insert_19 rfl (lv_at hl 2 rfl) ?_
    obtain ⟨hi, h⟩ := ckb_some h
    obtain ⟨row5, erow5, h⟩ := nm_some h
    refine Xs_qt erow5 hx hb hK hP hD hS hi d_Q_insert_20 (fun H locs hP hD hS => ?_)
    refine lv_dup hx hb d_Q_insert_21 rfl ?_
    refine lv_iconst (v := (1 : Int32)) hx hb d_Q_insert_22 (by decide) ?_
    refine lv_lload hx hb d_Q_insert_23 (lv_at hl 3 rfl) ?_
    obtain ⟨hi, h⟩ := ckb_some h
    obtain ⟨row7, erow7, h⟩ := nm_some h
    refine Xs_qt erow7 hx hb hK hP hD hS hi d_Q_insert_25 (fun H locs hP hD hS => ?_)
    refine lv_dup hx hb d_Q_insert_26 rfl ?_
    refine lv_iconst (v := (2 : Int32)) hx hb d_Q_insert_27 (by decide) ?_
    refine lv_lload hx hb d_Q_insert_28 (lv_at hl 4 rfl) ?_
    obtain ⟨hi, h⟩ := ckb_some h
    obtain ⟨row9, erow9, h⟩ := nm_some h
    refine Xs_qt erow9 hx hb hK hP hD hS hi d_Q_insert_30 (fun H locs hP hD hS => ?_)
    refine lv_dup hx hb d_Q_insert_31 rfl ?_
    refine lv_iconst (v := (3 : Int32)) hx hb d_Q_insert_32 (by decide) ?_
    refine lv_lload hx hb d_Q_insert_33 (lv_at hl 5 rfl) ?_
    obtain ⟨hi, h⟩ := ckb_some h
    obtain ⟨row11, erow11, h⟩ := nm_some h
    refine Xs_qt erow11 hx hb hK hP hD hS hi d_Q_insert_35 (fun H locs hP hD hS => ?_)
    refine lv_astore (lv' := [(11, .ref qt), (0, .ref (a 0)), (1, .int x1), (2, .long x2), (4, .long x4), (6, .long x6), (8, .long x8), (10, .int x10)]) hx hb d_Q_insert_36 hl (by decide) rfl (fun ls hl => ?_)
    refine lv_aload_n hx hb d_Q_insert_38 rfl (lv_at hl 1 rfl) ?_
    refine Xg_0_0 hx hb hB hown (hB _ m_389) hK hP d_Q_insert_39 ?_
    refine Xg_1_1 hx hb hB hown (hB _ m_103) hK hP d_Q_insert_42 ?_
    refine lv_iload_n hx hb d_Q_insert_45 rfl (lv_at hl 2 rfl) ?_
    obtain ⟨hi, h⟩ := ckb_some h
    refine Xa_2 hx hb hK hP hi d_Q_insert_46 ?_
    refine lv_aload hx hb d_Q_insert_47 (lv_at hl 0 rfl) ?_
    refine Xn_qt hx hb hK hP d_Q_insert_49 ?_
    refine va_mmin hx hb (hml.trans hl.1.symm) hown (hB _ m_421) (hB _ m_422) (hB _ m_82) (hB _ m_423) (by rw [hR]; exact Nat.le_of_ble_eq_true rfl) (by rw [hR]; exact Nat.le_of_ble_eq_true rfl) (by rw [hR]; exact Nat.le_of_ble_eq_true rfl) (by rw [hR]; exact Nat.le_of_ble_eq_true rfl) d_Q_insert_50 ?_
    refine lv_istore (lv' := [(12, .int (if (4 : Int32) < (ga s2 0 (x1).toNatClampNeg) then (4 : Int32) else (ga s2 0 (x1).toNatClampNeg))), (11, .ref qt), (0, .ref (a 0)), (1, .int x1), (2, .long x2), (4, .long x4), (6, .long x6), (8, .long x8), (10, .int x10)]) hx hb d_Q_insert_53 hl (by decide) rfl (fun ls hl => ?_)
    refine lv_iconst (v := (0 : Int32)) hx hb d_Q_insert_55 (by decide) ?_
    have L58 : ∀ (n : Nat) (σ : St) (x1 : Int32) (x10 : Int32) (x12 : Int32) (x13 : Int32) (H : Heap) (locs : List Loc) (ls : Array Slot), va_P D vCl (wX g ca a σ ++ ((qt, .inl (ca 1, 4, .inr (.inl row11))) :: tl)) H → va_D A (wX g ca a σ ++ ((qt, .inl (ca 1, 4, .inr (.inl row11))) :: tl)) → va_S A s.heap H locs → lv_has ls 14 [(0, .ref (a 0)), (1, .int x1), (10, .int x10), (11, .ref qt), (12, .int x12), (13, .int x13)] → f_Q_insert_58 N row11 n σ x1 x10 x12 x13 = some (r, σ') → W p l e R s m args below meth c H locs 1 4 (MQ below (qb_QI D vCl (tyX ca) (wX g ca a σ' ++ tl) A r) args s 1 4 A) (F0 m 58 ls []) := by
      intro n
      induction n with
      | zero => intro σ x1 x10 x12 x13 H locs ls hP hD hS hl h; cases h
      | succ n ih58 =>
          intro σ x1 x10 x12 x13 H locs ls hP hD hS hl h
          obtain ⟨K58, eK58⟩ : ∃ K, K = f_Q_insert_58 N row11 n := ⟨_, rfl⟩
          rw [← eK58] at ih58
          replace h : f_Q_insert_58_b N row11 K58 σ x1 x10 x12 x13 = some (r, σ') := by rw [eK58]; exact h
          unfold f_Q_insert_58_b at h
          refine lv_iload hx hb d_Q_insert_58 (lv_at hl 5 rfl) ?_
          refine lv_iload hx hb d_Q_insert_60 (lv_at hl 4 rfl) ?_
          refine lv_icmp_ge (tgt := 95) hx hb d_Q_insert_62 (by decide) (fun hc => ?_) (fun hc => ?_)
          · replace h := it_t h hc
            refine lv_aload_n hx hb d_Q_insert_95 rfl (lv_at hl 0 rfl) ?_
            refine Xg_0_0 hx hb hB hown (hB _ m_389) hK hP d_Q_insert_96 ?_
            refine Xg_1_2 hx hb hB hown (hB _ m_107) hK hP d_Q_insert_99 ?_
            refine lv_iload_n hx hb d_Q_insert_102 rfl (lv_at hl 1 rfl) ?_
            obtain ⟨hi, h⟩ := ckb_some h
            refine Xa_3 hx hb hK hP hi d_Q_insert_103 ?_
            refine lv_bipush (v := (8 : Int32)) hx hb d_Q_insert_104 (by decide) ?_
            refine lv_icmp_lt (tgt := 112) hx hb d_Q_insert_106 (by decide) (fun hc => ?_) (fun hc => ?_)
            · replace h := it_t h hc
              refine lv_aload_n hx hb d_Q_insert_112 rfl (lv_at hl 0 rfl) ?_
              refine Xg_0_0 hx hb hB hown (hB _ m_389) hK hP d_Q_insert_113 ?_
              refine lv_iload_n hx hb d_Q_insert_116 rfl (lv_at hl 1 rfl) ?_
              refine lv_aload hx hb d_Q_insert_117 (lv_at hl 3 rfl) ?_
              refine lv_iload hx hb d_Q_insert_119 (lv_at hl 2 rfl) ?_
              obtain ⟨r12, s13, hr12, h⟩ := bd_some h
              refine go_VI (rest := []) ⟨hx, hb, hml, hown, hB⟩ nwX_ok (c_T_addRow l D ca g a tl N qt row11 σ s13 x1 x10 r12 hr12) (cwx_V hB m_429 kw_T_addRow ⟨by rw [hR]; decide, by rw [hR]; decide⟩ rfl rfl) (va_recv hK hP (ci := 9) (q0 := 1) rfl rfl) hN hK hP hD hS hA rfl hl.1 rfl (Nat.le_of_ble_eq_true rfl) d_Q_insert_121 ⟨by rw [hR]; exact Nat.le_of_ble_eq_true rfl, by rw [hR]; exact Nat.le_of_ble_eq_true rfl⟩ (fun H locs hP hD hS => ?_)
              replace hP := vP_drop hP
              replace hD := vD_drop hD
              exact rf_I (w := (fun z => wX g ca a z ++ tl)) h hx hb hr hlk hK hP hD hS d_Q_insert_124
            · replace h := it_f h hc
              refine lv_bipush (v := (-104 : Int32)) hx hb d_Q_insert_109 (by decide) ?_
              replace hP := vP_drop hP
              replace hD := vD_drop hD
              exact rf_I (w := (fun z => wX g ca a z ++ tl)) h hx hb hr hlk hK hP hD hS d_Q_insert_111
          · replace h := it_f h hc
            refine lv_iload hx hb d_Q_insert_65 (lv_at hl 2 rfl) ?_
            refine lv_iload hx hb d_Q_insert_67 (lv_at hl 5 rfl) ?_
            refine lv_ishr hx hb d_Q_insert_69 ?_
            refine lv_iconst (v := (1 : Int32)) hx hb d_Q_insert_70 (by decide) ?_
            refine lv_iand hx hb d_Q_insert_71 ?_
            refine lv_if_ne (tgt := 89) hx hb d_Q_insert_72 (by decide) (fun hc => ?_) (fun hc => ?_)
            · replace h := it_f h hc
              refine lv_iinc (v := (x13 + 1)) (lv' := [(13, .int (x13 + 1)), (0, .ref (a 0)), (1, .int x1), (10, .int x10), (11, .ref qt), (12, .int x12)]) hx hb d_Q_insert_89 hl (k := 5) rfl rfl (by decide) rfl (fun ls hl => ?_)
              refine lv_goto (tgt := 58) hx hb d_Q_insert_92 (by decide) ?_
              exact ih58 σ x1 x10 x12 (x13 + 1) H locs ls hP hD hS (lv_sub hl [1, 2, 3, 4, 5, 0] rfl) h
            · replace h := it_t h hc
              refine lv_aload hx hb d_Q_insert_75 (lv_at hl 3 rfl) ?_
              refine lv_iload hx hb d_Q_insert_77 (lv_at hl 5 rfl) ?_
              obtain ⟨hi, h⟩ := ckb_some h
              refine Xa_qt hx hb hK hP hi d_Q_insert_79 ?_
              obtain ⟨r14, s15, hr14, h⟩ := bd_some h
              refine go_SI (rest := []) ⟨hx, hb, hml, hown, hB⟩ nwX_ok (c_Q_isOutside l D ca g a ((qt, .inl (ca 1, 4, .inr (.inl row11))) :: tl) N σ s15 (row11 (x13).toNatClampNeg) r14 hr14) (cwx_S hB m_424 kw_Q_isOutside ⟨by rw [hR]; decide, by rw [hR]; decide⟩ rfl rfl) hN hK hP hD hS hA rfl hl.1 rfl (Nat.le_of_ble_eq_true rfl) d_Q_insert_80 ⟨by rw [hR]; exact Nat.le_of_ble_eq_true rfl, by rw [hR]; exact Nat.le_of_ble_eq_true rfl⟩ (fun H locs hP hD hS => ?_)
              refine lv_if_eq (tgt := 89) hx hb d_Q_insert_83 (by decide) (fun hc => ?_) (fun hc => ?_)
              · replace h := it_t h hc
                refine lv_iinc (v := (x13 + 1)) (lv' := [(13, .int (x13 + 1)), (0, .ref (a 0)), (1, .int x1), (10, .int x10), (11, .ref qt), (12, .int x12)]) hx hb d_Q_insert_89 hl (k := 5) rfl rfl (by decide) rfl (fun ls hl => ?_)
                refine lv_goto (tgt := 58) hx hb d_Q_insert_92 (by decide) ?_
                exact ih58 s15 x1 x10 x12 (x13 + 1) H locs ls hP hD hS (lv_sub hl [1, 2, 3, 4, 5, 0] rfl) h
              · replace h := it_f h hc
                refine lv_bipush (v := (-102 : Int32)) hx hb d_Q_insert_86 (by decide) ?_
                replace hP := vP_drop hP
                replace hD := vD_drop hD
                exact rf_I (w := (fun z => wX g ca a z ++ tl)) h hx hb hr hlk hK hP hD hS d_Q_insert_88
    refine lv_istore (lv' := [(13, .int (0 : Int32)), (12, .int (if (4 : Int32) < (ga s2 0 (x1).toNatClampNeg) then (4 : Int32) else (ga s2 0 (x1).toNatClampNeg))), (11, .ref qt), (0, .ref (a 0)), (1, .int x1), (2, .long x2), (4, .long x4), (6, .long x6), (8, .long x8), (10, .int x10)]) hx hb d_Q_insert_56 hl (by decide) rfl (fun ls hl => ?_)
    exact L58 N s2 x1 x10 (if (4 : Int32) < (ga s2 0 (x1).toNatClampNeg) then (4 : Int32) else (ga s2 0 (x1).toNatClampNeg)) (0 : Int32) H locs ls hP hD hS (lv_sub hl [3, 4, 9, 2, 1, 0] rfl) h
  · replace h := it_t h hc
    refine lv_bipush (v := (-101 : Int32)) hx hb d_Q_insert_11 (by decide) ?_
    refine W.widen (k := 1) (n := 4) (by omega) (by omega) ?_
    exact rf_I (w := (fun z => wX g ca a z ++ tl)) h hx hb hr hlk hK hP hD hS d_Q_insert_13
set_option maxRecDepth 100000 in
set_option maxHeartbeats 4000000 in
theorem c_E_clear (l : Launch) (D : va_G) (ca : Nat → ClassId) (g : Bool) (a : Nat → Nat) (tl : va_W) (N : Nat) (σ σ' : St) (h : f_E_clear N σ = some ((), σ')) : CtV l y_E_clear ws_E_clear rm_E_clear 0 0 D vCl (tyX ca) nwX [.ref (a 6)] (wX g ca a σ ++ tl) (wX g ca a σ' ++ tl) := by
  refine en_V (ws' := BIG) (by decide +kernel) rfl (Nat.le_of_ble_eq_true rfl) ?_
  intro p e s m below meth c A ls R args H locs hR hx hb hr hlk hml hown hB hK hN hP hD hA hS hl
  have hl : lv_has ls 1 [(0, .ref (a 6))] := hl
  unfold f_E_clear at h
  refine lv_aload_n hx hb d_E_clear_0 rfl (lv_at hl 0 rfl) ?_
  refine lv_iconst (v := (0 : Int32)) hx hb d_E_clear_1 (by decide) ?_
  obtain ⟨s1, es1, h⟩ := nm_some h
  refine Xp_6_0 es1 hx hb hB hown (hB _ m_131) hK hP hD hS d_E_clear_2 (fun H locs hP hD hS => ?_)
  refine lv_aload_n hx hb d_E_clear_5 rfl (lv_at hl 0 rfl) ?_
  refine lv_iconst (v := (0 : Int32)) hx hb d_E_clear_6 (by decide) ?_
  obtain ⟨s2, es2, h⟩ := nm_some h
  refine Xp_6_1 es2 hx hb hB hown (hB _ m_134) hK hP hD hS d_E_clear_7 (fun H locs hP hD hS => ?_)
  exact rf_V (w := (fun z => wX g ca a z ++ tl)) h hx hb hr hlk hK hP hD hS d_E_clear_10
set_option maxRecDepth 100000 in
set_option maxHeartbeats 4000000 in
theorem c_Y_setShape (l : Launch) (D : va_G) (ca : Nat → ClassId) (g : Bool) (a : Nat → Nat) (tl : va_W) (N : Nat) (σ σ' : St) (x1 : Int32) (x2 : Int32) (x3 : Int32) (h : f_Y_setShape N σ x1 x2 x3 = some ((), σ')) : CtV l y_Y_setShape ws_Y_setShape rm_Y_setShape 0 0 D vCl (tyX ca) nwX [.ref (a 18), .int x1, .int x2, .int x3] (wX g ca a σ ++ tl) (wX g ca a σ' ++ tl) := by
  refine en_V (ws' := BIG) (by decide +kernel) rfl (Nat.le_of_ble_eq_true rfl) ?_
  intro p e s m below meth c A ls R args H locs hR hx hb hr hlk hml hown hB hK hN hP hD hA hS hl
  have hl : lv_has ls 4 [(0, .ref (a 18)), (1, .int x1), (2, .int x2), (3, .int x3)] := hl
  unfold f_Y_setShape at h
  refine lv_aload_n hx hb d_Y_setShape_0 rfl (lv_at hl 0 rfl) ?_
  refine lv_iload_n hx hb d_Y_setShape_1 rfl (lv_at hl 1 rfl) ?_
  obtain ⟨hi, h⟩ := ckt_some h
  obtain ⟨s1, es1, h⟩ := nm_some h
  refine Xp_18_13 es1 hx hb hB hown (hB _ m_239) hK hP hD hS hi d_Y_setShape_2 (fun H locs hP hD hS => ?_)
  refine lv_aload_n hx hb d_Y_setShape_5 rfl (lv_at hl 0 rfl) ?_
  refine lv_iload_n hx hb d_Y_setShape_6 rfl (lv_at hl 2 rfl) ?_
  obtain ⟨s2, es2, h⟩ := nm_some h
  refine Xp_18_14 es2 hx hb hB hown (hB _ m_241) hK hP hD hS d_Y_setShape_7 (fun H locs hP hD hS => ?_)
  refine lv_aload_n hx hb d_Y_setShape_10 rfl (lv_at hl 0 rfl) ?_
  refine lv_iload_n hx hb d_Y_setShape_11 rfl (lv_at hl 3 rfl) ?_
  obtain ⟨s3, es3, h⟩ := nm_some h
  refine Xp_18_15 es3 hx hb hB hown (hB _ m_243) hK hP hD hS d_Y_setShape_12 (fun H locs hP hD hS => ?_)
  exact rf_V (w := (fun z => wX g ca a z ++ tl)) h hx hb hr hlk hK hP hD hS d_Y_setShape_15
set_option maxRecDepth 100000 in
set_option maxHeartbeats 4000000 in
theorem c_Y_clear (l : Launch) (D : va_G) (ca : Nat → ClassId) (g : Bool) (a : Nat → Nat) (tl : va_W) (N : Nat) (σ σ' : St) (h : f_Y_clear N σ = some ((), σ')) : CtV l y_Y_clear ws_Y_clear rm_Y_clear 0 0 D vCl (tyX ca) nwX [.ref (a 18)] (wX g ca a σ ++ tl) (wX g ca a σ' ++ tl) := by
  refine en_V (ws' := BIG) (by decide +kernel) rfl (Nat.le_of_ble_eq_true rfl) ?_
  intro p e s m below meth c A ls R args H locs hR hx hb hr hlk hml hown hB hK hN hP hD hA hS hl
  have hl : lv_has ls 1 [(0, .ref (a 18))] := hl
  unfold f_Y_clear at h
  refine lv_aload_n hx hb d_Y_clear_0 rfl (lv_at hl 0 rfl) ?_
  refine lv_iconst (v := (0 : Int32)) hx hb d_Y_clear_1 (by decide) ?_
  obtain ⟨s1, es1, h⟩ := nm_some h
  refine Xp_18_0 es1 hx hb hB hown (hB _ m_196) hK hP hD hS d_Y_clear_2 (fun H locs hP hD hS => ?_)
  refine lv_aload_n hx hb d_Y_clear_5 rfl (lv_at hl 0 rfl) ?_
  refine lv_iconst (v := (-1 : Int32)) hx hb d_Y_clear_6 (by decide) ?_
  obtain ⟨s2, es2, h⟩ := nm_some h
  refine Xp_18_4 es2 hx hb hB hown (hB _ m_209) hK hP hD hS d_Y_clear_7 (fun H locs hP hD hS => ?_)
  refine lv_aload_n hx hb d_Y_clear_10 rfl (lv_at hl 0 rfl) ?_
  refine lv_iconst (v := (-1 : Int32)) hx hb d_Y_clear_11 (by decide) ?_
  obtain ⟨s3, es3, h⟩ := nm_some h
  refine Xp_18_5 es3 hx hb hB hown (hB _ m_213) hK hP hD hS d_Y_clear_12 (fun H locs hP hD hS => ?_)
  refine lv_aload_n hx hb d_Y_clear_15 rfl (lv_at hl 0 rfl) ?_
  refine lv_iconst (v := (0 : Int32)) hx hb d_Y_clear_16 (by decide) ?_
  obtain ⟨s4, es4, h⟩ := nm_some h
  refine Xp_18_6 es4 hx hb hB hown (hB _ m_217) hK hP hD hS d_Y_clear_17 (fun H locs hP hD hS => ?_)
  refine lv_aload_n hx hb d_Y_clear_20 rfl (lv_at hl 0 rfl) ?_
  refine lv_iconst (v := (0 : Int32)) hx hb d_Y_clear_21 (by decide) ?_
  obtain ⟨s5, es5, h⟩ := nm_some h
  refine Xp_18_8 es5 hx hb hB hown (hB _ m_225) hK hP hD hS d_Y_clear_22 (fun H locs hP hD hS => ?_)
  refine lv_aload_n hx hb d_Y_clear_25 rfl (lv_at hl 0 rfl) ?_
  refine lv_iconst (v := (0 : Int32)) hx hb d_Y_clear_26 (by decide) ?_
  obtain ⟨s6, es6, h⟩ := nm_some h
  refine Xp_18_10 es6 hx hb hB hown (hB _ m_232) hK hP hD hS d_Y_clear_27 (fun H locs hP hD hS => ?_)
  refine lv_aload_n hx hb d_Y_clear_30 rfl (lv_at hl 0 rfl) ?_
  refine lv_iconst (v := (0 : Int32)) hx hb d_Y_clear_31 (by decide) ?_
  refine lv_sipush (v := (1000 : Int32)) hx hb d_Y_clear_32 (by decide) ?_
  refine lv_iconst (v := (0 : Int32)) hx hb d_Y_clear_35 (by decide) ?_
  obtain ⟨r7, s8, hr7, h⟩ := bd_some h
  cases r7
  refine go_VV (rest := []) ⟨hx, hb, hml, hown, hB⟩ nwX_ok (c_Y_setShape l D ca g a tl N s6 s8 (0 : Int32) (1000 : Int32) (0 : Int32) hr7) (cwx_V hB m_448 kw_Y_setShape ⟨by rw [hR]; decide, by rw [hR]; decide⟩ rfl rfl) (va_recv hK hP (ci := 7) (q0 := 18) rfl rfl) hN hK hP hD hS hA rfl hl.1 rfl (Nat.le_of_ble_eq_true rfl) d_Y_clear_36 ⟨by rw [hR]; exact Nat.le_of_ble_eq_true rfl, by rw [hR]; exact Nat.le_of_ble_eq_true rfl⟩ (fun H locs hP hD hS => ?_)
  exact rf_V (w := (fun z => wX g ca a z ++ tl)) h hx hb hr hlk hK hP hD hS d_Y_clear_39
set_option maxRecDepth 100000 in
set_option maxHeartbeats 4000000 in
theorem c_Q_fresh (l : Launch) (D : va_G) (ca : Nat → ClassId) (g : Bool) (a : Nat → Nat) (tl : va_W) (N : Nat) (σ σ' : St) (r : Int32) (h : f_Q_fresh N σ = some (r, σ')) : CtI l y_Q_fresh ws_Q_fresh rm_Q_fresh 0 0 D vCl (tyX ca) nwX [.ref (a 0)] (wX g ca a σ ++ tl) (wX g ca a σ' ++ tl) r := by
  refine en_I (ws' := BIG) (by decide +kernel) rfl (Nat.le_of_ble_eq_true rfl) ?_
  intro p e s m below meth c A ls R args H locs hR hx hb hr hlk hml hown hB hK hN hP hD hA hS hl
  have hl : lv_has ls 2 [(0, .ref (a 0))] := hl
  unfold f_Q_fresh at h
  refine lv_aload_n hx hb d_Q_fresh_0 rfl (lv_at hl 0 rfl) ?_
  refine Xg_0_1 hx hb hB hown (hB _ m_390) hK hP d_Q_fresh_1 ?_
  refine Xg_6_0 hx hb hB hown (hB _ m_132) hK hP d_Q_fresh_4 ?_
  refine lv_istore_n (lv' := [(1, .int (gi σ 1)), (0, .ref (a 0))]) hx hb d_Q_fresh_7 rfl hl (by decide) rfl (fun ls hl => ?_)
  refine lv_aload_n hx hb d_Q_fresh_8 rfl (lv_at hl 1 rfl) ?_
  refine Xg_0_1 hx hb hB hown (hB _ m_390) hK hP d_Q_fresh_9 ?_
  obtain ⟨r1, s2, hr1, h⟩ := bd_some h
  cases r1
  refine go_VV (rest := []) ⟨hx, hb, hml, hown, hB⟩ nwX_ok (c_E_clear l D ca g a tl N σ s2 hr1) (cwx_V hB m_440 kw_E_clear ⟨by rw [hR]; decide, by rw [hR]; decide⟩ rfl rfl) (va_recv hK hP (ci := 5) (q0 := 6) rfl rfl) hN hK hP hD hS hA rfl hl.1 rfl (Nat.le_of_ble_eq_true rfl) d_Q_fresh_12 ⟨by rw [hR]; exact Nat.le_of_ble_eq_true rfl, by rw [hR]; exact Nat.le_of_ble_eq_true rfl⟩ (fun H locs hP hD hS => ?_)
  refine lv_aload_n hx hb d_Q_fresh_15 rfl (lv_at hl 1 rfl) ?_
  refine Xg_0_2 hx hb hB hown (hB _ m_391) hK hP d_Q_fresh_16 ?_
  obtain ⟨r3, s4, hr3, h⟩ := bd_some h
  cases r3
  refine go_VV (rest := []) ⟨hx, hb, hml, hown, hB⟩ nwX_ok (c_Y_clear l D ca g a tl N s2 s4 hr3) (cwx_V hB m_444 kw_Y_clear ⟨by rw [hR]; decide, by rw [hR]; decide⟩ rfl rfl) (va_recv hK hP (ci := 7) (q0 := 18) rfl rfl) hN hK hP hD hS hA rfl hl.1 rfl (Nat.le_of_ble_eq_true rfl) d_Q_fresh_19 ⟨by rw [hR]; exact Nat.le_of_ble_eq_true rfl, by rw [hR]; exact Nat.le_of_ble_eq_true rfl⟩ (fun H locs hP hD hS => ?_)
  refine lv_iload_n hx hb d_Q_fresh_22 rfl (lv_at hl 0 rfl) ?_
  exact rf_I (w := (fun z => wX g ca a z ++ tl)) h hx hb hr hlk hK hP hD hS d_Q_fresh_23
set_option maxRecDepth 100000 in
set_option maxHeartbeats 4000000 in
theorem c_E_has (l : Launch) (D : va_G) (ca : Nat → ClassId) (g : Bool) (a : Nat → Nat) (tl : va_W) (N : Nat) (σ σ' : St) (x1 : Int32) (r : Int32) (h : f_E_has N σ x1 = some (r, σ')) : CtI l y_E_has ws_E_has rm_E_has 0 0 D vCl (tyX ca) nwX [.ref (a 6), .int x1] (wX g ca a σ ++ tl) (wX g ca a σ' ++ tl) r := by
  refine en_Z (ws' := BIG) (by decide +kernel) rfl (Nat.le_of_ble_eq_true rfl) ?_
  intro p e s m below meth c A ls R args H locs hR hx hb hr hlk hml hown hB hK hN hP hD hA hS hl
  have hl : lv_has ls 2 [(0, .ref (a 6)), (1, .int x1)] := hl
  unfold f_E_has at h
  refine lv_iload_n hx hb d_E_has_0 rfl (lv_at hl 1 rfl) ?_
  refine lv_if_lt (tgt := 16) hx hb d_E_has_1 (by decide) (fun hc => ?_) (fun hc => ?_)
  · replace h := it_t h hc
    refine lv_iconst (v := (0 : Int32)) hx hb d_E_has_16 (by decide) ?_
    exact rf_Z (w := (fun z => wX g ca a z ++ tl)) h hx hb hr hlk hK hP hD hS rfl d_E_has_17
  · replace h := it_f h hc
    refine lv_iload_n hx hb d_E_has_4 rfl (lv_at hl 1 rfl) ?_
    refine lv_aload_n hx hb d_E_has_5 rfl (lv_at hl 0 rfl) ?_
    refine Xg_6_0 hx hb hB hown (hB _ m_131) hK hP d_E_has_6 ?_
    refine lv_icmp_ge (tgt := 16) hx hb d_E_has_9 (by decide) (fun hc => ?_) (fun hc => ?_)
    · replace h := it_t h hc
      refine lv_iconst (v := (0 : Int32)) hx hb d_E_has_16 (by decide) ?_
      exact rf_Z (w := (fun z => wX g ca a z ++ tl)) h hx hb hr hlk hK hP hD hS rfl d_E_has_17
    · replace h := it_f h hc
      refine lv_iconst (v := (1 : Int32)) hx hb d_E_has_12 (by decide) ?_
      refine lv_goto (tgt := 17) hx hb d_E_has_13 (by decide) ?_
      exact rf_Z (w := (fun z => wX g ca a z ++ tl)) h hx hb hr hlk hK hP hD hS rfl d_E_has_17
set_option maxRecDepth 100000 in
set_option maxHeartbeats 4000000 in
theorem c_E_partsOf (l : Launch) (D : va_G) (ca : Nat → ClassId) (g : Bool) (a : Nat → Nat) (tl : va_W) (N : Nat) (σ σ' : St) (x1 : Int32) (r : Int32) (h : f_E_partsOf N σ x1 = some (r, σ')) : CtI l y_E_partsOf ws_E_partsOf rm_E_partsOf 0 0 D vCl (tyX ca) nwX [.ref (a 6), .int x1] (wX g ca a σ ++ tl) (wX g ca a σ' ++ tl) r := by
  refine en_I (ws' := BIG) (by decide +kernel) rfl (Nat.le_of_ble_eq_true rfl) ?_
  intro p e s m below meth c A ls R args H locs hR hx hb hr hlk hml hown hB hK hN hP hD hA hS hl
  have hl : lv_has ls 2 [(0, .ref (a 6)), (1, .int x1)] := hl
  unfold f_E_partsOf at h
  refine lv_aload_n hx hb d_E_partsOf_0 rfl (lv_at hl 0 rfl) ?_
  refine lv_iload_n hx hb d_E_partsOf_1 rfl (lv_at hl 1 rfl) ?_
  obtain ⟨r1, s2, hr1, h⟩ := bd_some h
  refine go_VI (rest := []) ⟨hx, hb, hml, hown, hB⟩ nwX_ok (c_E_has l D ca g a tl N σ s2 x1 r1 hr1) (cwx_V hB m_464 kw_E_has ⟨by rw [hR]; decide, by rw [hR]; decide⟩ rfl rfl) (va_recv hK hP (ci := 5) (q0 := 6) rfl rfl) hN hK hP hD hS hA rfl hl.1 rfl (Nat.le_of_ble_eq_true rfl) d_E_partsOf_2 ⟨by rw [hR]; exact Nat.le_of_ble_eq_true rfl, by rw [hR]; exact Nat.le_of_ble_eq_true rfl⟩ (fun H locs hP hD hS => ?_)
  refine lv_if_eq (tgt := 17) hx hb d_E_partsOf_5 (by decide) (fun hc => ?_) (fun hc => ?_)
  · replace h := it_t h hc
    refine lv_iconst (v := (0 : Int32)) hx hb d_E_partsOf_17 (by decide) ?_
    exact rf_I (w := (fun z => wX g ca a z ++ tl)) h hx hb hr hlk hK hP hD hS d_E_partsOf_18
  · replace h := it_f h hc
    refine lv_aload_n hx hb d_E_partsOf_8 rfl (lv_at hl 0 rfl) ?_
    refine Xg_6_6 hx hb hB hown (hB _ m_148) hK hP d_E_partsOf_9 ?_
    refine lv_iload_n hx hb d_E_partsOf_12 rfl (lv_at hl 1 rfl) ?_
    obtain ⟨hi, h⟩ := ckb_some h
    refine Xa_11 hx hb hK hP hi d_E_partsOf_13 ?_
    refine lv_goto (tgt := 18) hx hb d_E_partsOf_14 (by decide) ?_
    exact rf_I (w := (fun z => wX g ca a z ++ tl)) h hx hb hr hlk hK hP hD hS d_E_partsOf_18
set_option maxRecDepth 100000 in
set_option maxHeartbeats 4000000 in
theorem c_E_hasRoom (l : Launch) (D : va_G) (ca : Nat → ClassId) (g : Bool) (a : Nat → Nat) (tl : va_W) (N : Nat) (σ σ' : St) (x1 : Int32) (x2 : Int32) (r : Int32) (h : f_E_hasRoom N σ x1 x2 = some (r, σ')) : CtI l y_E_hasRoom ws_E_hasRoom rm_E_hasRoom 0 0 D vCl (tyX ca) nwX [.ref (a 6), .int x1, .int x2] (wX g ca a σ ++ tl) (wX g ca a σ' ++ tl) r := by
  refine en_Z (ws' := BIG) (by decide +kernel) rfl (Nat.le_of_ble_eq_true rfl) ?_
  intro p e s m below meth c A ls R args H locs hR hx hb hr hlk hml hown hB hK hN hP hD hA hS hl
  have hl : lv_has ls 3 [(0, .ref (a 6)), (1, .int x1), (2, .int x2)] := hl
  unfold f_E_hasRoom at h
  refine lv_aload_n hx hb d_E_hasRoom_0 rfl (lv_at hl 0 rfl) ?_
  refine Xg_6_0 hx hb hB hown (hB _ m_131) hK hP d_E_hasRoom_1 ?_
  refine lv_bipush (v := (60 : Int32)) hx hb d_E_hasRoom_4 (by decide) ?_
  refine lv_icmp_ge (tgt := 31) hx hb d_E_hasRoom_6 (by decide) (fun hc => ?_) (fun hc => ?_)
  · replace h := it_t h hc
    refine lv_iconst (v := (0 : Int32)) hx hb d_E_hasRoom_31 (by decide) ?_
    exact rf_Z (w := (fun z => wX g ca a z ++ tl)) h hx hb hr hlk hK hP hD hS rfl d_E_hasRoom_32
  · replace h := it_f h hc
    refine lv_iconst (v := (1 : Int32)) hx hb d_E_hasRoom_9 (by decide) ?_
    refine lv_aload_n hx hb d_E_hasRoom_10 rfl (lv_at hl 0 rfl) ?_
    refine lv_iload_n hx hb d_E_hasRoom_11 rfl (lv_at hl 1 rfl) ?_
    obtain ⟨r1, s2, hr1, h⟩ := bd_some h
    refine go_VI (rest := [.int (1 : Int32)]) ⟨hx, hb, hml, hown, hB⟩ nwX_ok (c_E_partsOf l D ca g a tl N σ s2 x1 r1 hr1) (cwx_V hB m_460 kw_E_partsOf ⟨by rw [hR]; decide, by rw [hR]; decide⟩ rfl rfl) (va_recv hK hP (ci := 5) (q0 := 6) rfl rfl) hN hK hP hD hS hA rfl hl.1 rfl (Nat.le_of_ble_eq_true rfl) d_E_hasRoom_12 ⟨by rw [hR]; exact Nat.le_of_ble_eq_true rfl, by rw [hR]; exact Nat.le_of_ble_eq_true rfl⟩ (fun H locs hP hD hS => ?_)
    refine lv_iadd hx hb d_E_hasRoom_15 ?_
    refine lv_aload_n hx hb d_E_hasRoom_16 rfl (lv_at hl 0 rfl) ?_
    refine lv_iload_n hx hb d_E_hasRoom_17 rfl (lv_at hl 2 rfl) ?_
    obtain ⟨r3, s4, hr3, h⟩ := bd_some h
    refine go_VI (rest := [.int ((1 : Int32) + r1)]) ⟨hx, hb, hml, hown, hB⟩ nwX_ok (c_E_partsOf l D ca g a tl N s2 s4 x2 r3 hr3) (cwx_V hB m_460 kw_E_partsOf ⟨by rw [hR]; decide, by rw [hR]; decide⟩ rfl rfl) (va_recv hK hP (ci := 5) (q0 := 6) rfl rfl) hN hK hP hD hS hA rfl hl.1 rfl (Nat.le_of_ble_eq_true rfl) d_E_hasRoom_18 ⟨by rw [hR]; exact Nat.le_of_ble_eq_true rfl, by rw [hR]; exact Nat.le_of_ble_eq_true rfl⟩ (fun H locs hP hD hS => ?_)
    refine lv_iadd hx hb d_E_hasRoom_21 ?_
    refine lv_bipush (v := (60 : Int32)) hx hb d_E_hasRoom_22 (by decide) ?_
    refine lv_icmp_gt (tgt := 31) hx hb d_E_hasRoom_24 (by decide) (fun hc => ?_) (fun hc => ?_)
    · replace h := it_t h hc
      refine lv_iconst (v := (0 : Int32)) hx hb d_E_hasRoom_31 (by decide) ?_
      exact rf_Z (w := (fun z => wX g ca a z ++ tl)) h hx hb hr hlk hK hP hD hS rfl d_E_hasRoom_32
    · replace h := it_f h hc
      refine lv_iconst (v := (1 : Int32)) hx hb d_E_hasRoom_27 (by decide) ?_
      refine lv_goto (tgt := 32) hx hb d_E_hasRoom_28 (by decide) ?_
      exact rf_Z (w := (fun z => wX g ca a z ++ tl)) h hx hb hr hlk hK hP hD hS rfl d_E_hasRoom_32
set_option maxRecDepth 100000 in
set_option maxHeartbeats 4000000 in
theorem c_E_likeOf (l : Launch) (D : va_G) (ca : Nat → ClassId) (g : Bool) (a : Nat → Nat) (tl : va_W) (N : Nat) (σ σ' : St) (x1 : Int32) (r : Int32) (h : f_E_likeOf N σ x1 = some (r, σ')) : CtI l y_E_likeOf ws_E_likeOf rm_E_likeOf 0 0 D vCl (tyX ca) nwX [.ref (a 6), .int x1] (wX g ca a σ ++ tl) (wX g ca a σ' ++ tl) r := by
  refine en_I (ws' := BIG) (by decide +kernel) rfl (Nat.le_of_ble_eq_true rfl) ?_
  intro p e s m below meth c A ls R args H locs hR hx hb hr hlk hml hown hB hK hN hP hD hA hS hl
  have hl : lv_has ls 2 [(0, .ref (a 6)), (1, .int x1)] := hl
  unfold f_E_likeOf at h
  refine lv_aload_n hx hb d_E_likeOf_0 rfl (lv_at hl 0 rfl) ?_
  refine lv_iload_n hx hb d_E_likeOf_1 rfl (lv_at hl 1 rfl) ?_
  obtain ⟨r1, s2, hr1, h⟩ := bd_some h
  refine go_VI (rest := []) ⟨hx, hb, hml, hown, hB⟩ nwX_ok (c_E_has l D ca g a tl N σ s2 x1 r1 hr1) (cwx_V hB m_464 kw_E_has ⟨by rw [hR]; decide, by rw [hR]; decide⟩ rfl rfl) (va_recv hK hP (ci := 5) (q0 := 6) rfl rfl) hN hK hP hD hS hA rfl hl.1 rfl (Nat.le_of_ble_eq_true rfl) d_E_likeOf_2 ⟨by rw [hR]; exact Nat.le_of_ble_eq_true rfl, by rw [hR]; exact Nat.le_of_ble_eq_true rfl⟩ (fun H locs hP hD hS => ?_)
  refine lv_if_eq (tgt := 17) hx hb d_E_likeOf_5 (by decide) (fun hc => ?_) (fun hc => ?_)
  · replace h := it_t h hc
    refine lv_iconst (v := (-1 : Int32)) hx hb d_E_likeOf_17 (by decide) ?_
    exact rf_I (w := (fun z => wX g ca a z ++ tl)) h hx hb hr hlk hK hP hD hS d_E_likeOf_18
  · replace h := it_f h hc
    refine lv_aload_n hx hb d_E_likeOf_8 rfl (lv_at hl 0 rfl) ?_
    refine Xg_6_7 hx hb hB hown (hB _ m_149) hK hP d_E_likeOf_9 ?_
    refine lv_iload_n hx hb d_E_likeOf_12 rfl (lv_at hl 1 rfl) ?_
    obtain ⟨hi, h⟩ := ckb_some h
    refine Xa_12 hx hb hK hP hi d_E_likeOf_13 ?_
    refine lv_goto (tgt := 18) hx hb d_E_likeOf_14 (by decide) ?_
    exact rf_I (w := (fun z => wX g ca a z ++ tl)) h hx hb hr hlk hK hP hD hS d_E_likeOf_18
set_option maxRecDepth 100000 in
set_option maxHeartbeats 4000000 in
theorem c_E_firstLike (l : Launch) (D : va_G) (ca : Nat → ClassId) (g : Bool) (a : Nat → Nat) (tl : va_W) (N : Nat) (σ σ' : St) (x1 : Int32) (r : Int32) (h : f_E_firstLike N σ x1 = some (r, σ')) : CtI l y_E_firstLike ws_E_firstLike rm_E_firstLike 0 0 D vCl (tyX ca) nwX [.ref (a 6), .int x1] (wX g ca a σ ++ tl) (wX g ca a σ' ++ tl) r := by
  refine en_I (ws' := BIG) (by decide +kernel) rfl (Nat.le_of_ble_eq_true rfl) ?_
  intro p e s m below meth c A ls R args H locs hR hx hb hr hlk hml hown hB hK hN hP hD hA hS hl
  have hl : lv_has ls 3 [(0, .ref (a 6)), (1, .int x1)] := hl
  unfold f_E_firstLike at h
  refine lv_iconst (v := (0 : Int32)) hx hb d_E_firstLike_0 (by decide) ?_
  have L2 : ∀ (n : Nat) (σ : St) (x1 : Int32) (x2 : Int32) (H : Heap) (locs : List Loc) (ls : Array Slot), va_P D vCl (wX g ca a σ ++ tl) H → va_D A (wX g ca a σ ++ tl) → va_S A s.heap H locs → lv_has ls 3 [(0, .ref (a 6)), (1, .int x1), (2, .int x2)] → f_E_firstLike_2 N n σ x1 x2 = some (r, σ') → W p l e R s m args below meth c H locs 0 0 (MQ below (qb_QI D vCl (tyX ca) (wX g ca a σ' ++ tl) A r) args s 0 0 A) (F0 m 2 ls []) := by
    intro n
    induction n with
    | zero => intro σ x1 x2 H locs ls hP hD hS hl h; cases h
    | succ n ih2 =>
        intro σ x1 x2 H locs ls hP hD hS hl h
        obtain ⟨K2, eK2⟩ : ∃ K, K = f_E_firstLike_2 N n := ⟨_, rfl⟩
        rw [← eK2] at ih2
        replace h : f_E_firstLike_2_b N K2 σ x1 x2 = some (r, σ') := by rw [eK2]; exact h
        unfold f_E_firstLike_2_b at h
        refine lv_iload_n hx hb d_E_firstLike_2 rfl (lv_at hl 2 rfl) ?_
        refine lv_iload_n hx hb d_E_firstLike_3 rfl (lv_at hl 1 rfl) ?_
        refine lv_icmp_ge (tgt := 97) hx hb d_E_firstLike_4 (by decide) (fun hc => ?_) (fun hc => ?_)
        · replace h := it_t h hc
          refine lv_iload_n hx hb d_E_firstLike_97 rfl (lv_at hl 1 rfl) ?_
          exact rf_I (w := (fun z => wX g ca a z ++ tl)) h hx hb hr hlk hK hP hD hS d_E_firstLike_98
        · replace h := it_f h hc
          refine lv_aload_n hx hb d_E_firstLike_7 rfl (lv_at hl 0 rfl) ?_
          refine Xg_6_2 hx hb hB hown (hB _ m_137) hK hP d_E_firstLike_8 ?_
          refine lv_iload_n hx hb d_E_firstLike_11 rfl (lv_at hl 2 rfl) ?_
          obtain ⟨hi, h⟩ := ckb_some h
          refine Xa_7 hx hb hK hP hi d_E_firstLike_12 ?_
          refine lv_aload_n hx hb d_E_firstLike_13 rfl (lv_at hl 0 rfl) ?_
          refine Xg_6_2 hx hb hB hown (hB _ m_137) hK hP d_E_firstLike_14 ?_
          refine lv_iload_n hx hb d_E_firstLike_17 rfl (lv_at hl 1 rfl) ?_
          obtain ⟨hi, h⟩ := ckb_some h
          refine Xa_7 hx hb hK hP hi d_E_firstLike_18 ?_
          refine lv_icmp_ne (tgt := 91) hx hb d_E_firstLike_19 (by decide) (fun hc => ?_) (fun hc => ?_)
          · replace h := it_f h hc
            refine lv_iinc (v := (x2 + 1)) (lv' := [(2, .int (x2 + 1)), (0, .ref (a 6)), (1, .int x1)]) hx hb d_E_firstLike_91 hl (k := 2) rfl rfl (by decide) rfl (fun ls hl => ?_)
            refine lv_goto (tgt := 2) hx hb d_E_firstLike_94 (by decide) ?_
            exact ih2 σ x1 (x2 + 1) H locs ls hP hD hS (lv_sub hl [1, 2, 0] rfl) h
          · replace h := it_t h hc
            refine lv_aload_n hx hb d_E_firstLike_22 rfl (lv_at hl 0 rfl) ?_
            refine Xg_6_3 hx hb hB hown (hB _ m_140) hK hP d_E_firstLike_23 ?_
            refine lv_iload_n hx hb d_E_firstLike_26 rfl (lv_at hl 2 rfl) ?_
            obtain ⟨hi, h⟩ := ckb_some h
            refine Xa_8 hx hb hK hP hi d_E_firstLike_27 ?_
            refine lv_aload_n hx hb d_E_firstLike_28 rfl (lv_at hl 0 rfl) ?_
            refine Xg_6_3 hx hb hB hown (hB _ m_140) hK hP d_E_firstLike_29 ?_
            refine lv_iload_n hx hb d_E_firstLike_32 rfl (lv_at hl 1 rfl) ?_
            obtain ⟨hi, h⟩ := ckb_some h
            refine Xa_8 hx hb hK hP hi d_E_firstLike_33 ?_
            refine W.lcmp hx hb d_E_firstLike_34 ?_
            refine lv_if_ne (tgt := 91) hx hb d_E_firstLike_35 (by decide) (fun hc => ?_) (fun hc => ?_)
            · replace h := it_f h hc
              refine lv_iinc (v := (x2 + 1)) (lv' := [(2, .int (x2 + 1)), (0, .ref (a 6)), (1, .int x1)]) hx hb d_E_firstLike_91 hl (k := 2) rfl rfl (by decide) rfl (fun ls hl => ?_)
              refine lv_goto (tgt := 2) hx hb d_E_firstLike_94 (by decide) ?_
              exact ih2 σ x1 (x2 + 1) H locs ls hP hD hS (lv_sub hl [1, 2, 0] rfl) h
            · replace h := it_t h hc
              refine lv_aload_n hx hb d_E_firstLike_38 rfl (lv_at hl 0 rfl) ?_
              refine lv_aload_n hx hb d_E_firstLike_39 rfl (lv_at hl 0 rfl) ?_
              refine Xg_6_4 hx hb hB hown (hB _ m_142) hK hP d_E_firstLike_40 ?_
              refine lv_iload_n hx hb d_E_firstLike_43 rfl (lv_at hl 2 rfl) ?_
              obtain ⟨hi, h⟩ := ckb_some h
              refine Xa_9 hx hb hK hP hi d_E_firstLike_44 ?_
              obtain ⟨r1, s2, hr1, h⟩ := bd_some h
              refine go_VI (rest := []) ⟨hx, hb, hml, hown, hB⟩ nwX_ok (c_E_likeOf l D ca g a tl N σ s2 (ga σ 4 (x2).toNatClampNeg) r1 hr1) (cwx_V hB m_480 kw_E_likeOf ⟨by rw [hR]; decide, by rw [hR]; decide⟩ rfl rfl) (va_recv hK hP (ci := 5) (q0 := 6) rfl rfl) hN hK hP hD hS hA rfl hl.1 rfl (Nat.le_of_ble_eq_true rfl) d_E_firstLike_45 ⟨by rw [hR]; exact Nat.le_of_ble_eq_true rfl, by rw [hR]; exact Nat.le_of_ble_eq_true rfl⟩ (fun H locs hP hD hS => ?_)
              refine lv_aload_n hx hb d_E_firstLike_48 rfl (lv_at hl 0 rfl) ?_
              refine lv_aload_n hx hb d_E_firstLike_49 rfl (lv_at hl 0 rfl) ?_
              refine Xg_6_4 hx hb hB hown (hB _ m_142) hK hP d_E_firstLike_50 ?_
              refine lv_iload_n hx hb d_E_firstLike_53 rfl (lv_at hl 1 rfl) ?_
              obtain ⟨hi, h⟩ := ckb_some h
              refine Xa_9 hx hb hK hP hi d_E_firstLike_54 ?_
              obtain ⟨r3, s4, hr3, h⟩ := bd_some h
              refine go_VI (rest := [.int r1]) ⟨hx, hb, hml, hown, hB⟩ nwX_ok (c_E_likeOf l D ca g a tl N s2 s4 (ga s2 4 (x1).toNatClampNeg) r3 hr3) (cwx_V hB m_480 kw_E_likeOf ⟨by rw [hR]; decide, by rw [hR]; decide⟩ rfl rfl) (va_recv hK hP (ci := 5) (q0 := 6) rfl rfl) hN hK hP hD hS hA rfl hl.1 rfl (Nat.le_of_ble_eq_true rfl) d_E_firstLike_55 ⟨by rw [hR]; exact Nat.le_of_ble_eq_true rfl, by rw [hR]; exact Nat.le_of_ble_eq_true rfl⟩ (fun H locs hP hD hS => ?_)
              refine lv_icmp_ne (tgt := 91) hx hb d_E_firstLike_58 (by decide) (fun hc => ?_) (fun hc => ?_)
              · replace h := it_f h hc
                refine lv_iinc (v := (x2 + 1)) (lv' := [(2, .int (x2 + 1)), (0, .ref (a 6)), (1, .int x1)]) hx hb d_E_firstLike_91 hl (k := 2) rfl rfl (by decide) rfl (fun ls hl => ?_)
                refine lv_goto (tgt := 2) hx hb d_E_firstLike_94 (by decide) ?_
                exact ih2 s4 x1 (x2 + 1) H locs ls hP hD hS (lv_sub hl [1, 2, 0] rfl) h
              · replace h := it_t h hc
                refine lv_aload_n hx hb d_E_firstLike_61 rfl (lv_at hl 0 rfl) ?_
                refine lv_aload_n hx hb d_E_firstLike_62 rfl (lv_at hl 0 rfl) ?_
                refine Xg_6_5 hx hb hB hown (hB _ m_145) hK hP d_E_firstLike_63 ?_
                refine lv_iload_n hx hb d_E_firstLike_66 rfl (lv_at hl 2 rfl) ?_
                obtain ⟨hi, h⟩ := ckb_some h
                refine Xa_10 hx hb hK hP hi d_E_firstLike_67 ?_
                obtain ⟨r5, s6, hr5, h⟩ := bd_some h
                refine go_VI (rest := []) ⟨hx, hb, hml, hown, hB⟩ nwX_ok (c_E_likeOf l D ca g a tl N s4 s6 (ga s4 5 (x2).toNatClampNeg) r5 hr5) (cwx_V hB m_480 kw_E_likeOf ⟨by rw [hR]; decide, by rw [hR]; decide⟩ rfl rfl) (va_recv hK hP (ci := 5) (q0 := 6) rfl rfl) hN hK hP hD hS hA rfl hl.1 rfl (Nat.le_of_ble_eq_true rfl) d_E_firstLike_68 ⟨by rw [hR]; exact Nat.le_of_ble_eq_true rfl, by rw [hR]; exact Nat.le_of_ble_eq_true rfl⟩ (fun H locs hP hD hS => ?_)
                refine lv_aload_n hx hb d_E_firstLike_71 rfl (lv_at hl 0 rfl) ?_
                refine lv_aload_n hx hb d_E_firstLike_72 rfl (lv_at hl 0 rfl) ?_
                refine Xg_6_5 hx hb hB hown (hB _ m_145) hK hP d_E_firstLike_73 ?_
                refine lv_iload_n hx hb d_E_firstLike_76 rfl (lv_at hl 1 rfl) ?_
                obtain ⟨hi, h⟩ := ckb_some h
                refine Xa_10 hx hb hK hP hi d_E_firstLike_77 ?_
                obtain ⟨r7, s8, hr7, h⟩ := bd_some h
                refine go_VI (rest := [.int r5]) ⟨hx, hb, hml, hown, hB⟩ nwX_ok (c_E_likeOf l D ca g a tl N s6 s8 (ga s6 5 (x1).toNatClampNeg) r7 hr7) (cwx_V hB m_480 kw_E_likeOf ⟨by rw [hR]; decide, by rw [hR]; decide⟩ rfl rfl) (va_recv hK hP (ci := 5) (q0 := 6) rfl rfl) hN hK hP hD hS hA rfl hl.1 rfl (Nat.le_of_ble_eq_true rfl) d_E_firstLike_78 ⟨by rw [hR]; exact Nat.le_of_ble_eq_true rfl, by rw [hR]; exact Nat.le_of_ble_eq_true rfl⟩ (fun H locs hP hD hS => ?_)
                refine lv_icmp_ne (tgt := 91) hx hb d_E_firstLike_81 (by decide) (fun hc => ?_) (fun hc => ?_)
                · replace h := it_f h hc
                  refine lv_iinc (v := (x2 + 1)) (lv' := [(2, .int (x2 + 1)), (0, .ref (a 6)), (1, .int x1)]) hx hb d_E_firstLike_91 hl (k := 2) rfl rfl (by decide) rfl (fun ls hl => ?_)
                  refine lv_goto (tgt := 2) hx hb d_E_firstLike_94 (by decide) ?_
                  exact ih2 s8 x1 (x2 + 1) H locs ls hP hD hS (lv_sub hl [1, 2, 0] rfl) h
                · replace h := it_t h hc
                  refine lv_aload_n hx hb d_E_firstLike_84 rfl (lv_at hl 0 rfl) ?_
                  refine Xg_6_7 hx hb hB hown (hB _ m_149) hK hP d_E_firstLike_85 ?_
                  refine lv_iload_n hx hb d_E_firstLike_88 rfl (lv_at hl 2 rfl) ?_
                  obtain ⟨hi, h⟩ := ckb_some h
                  refine Xa_12 hx hb hK hP hi d_E_firstLike_89 ?_
                  exact rf_I (w := (fun z => wX g ca a z ++ tl)) h hx hb hr hlk hK hP hD hS d_E_firstLike_90
  refine lv_istore_n (lv' := [(2, .int (0 : Int32)), (0, .ref (a 6)), (1, .int x1)]) hx hb d_E_firstLike_1 rfl hl (by decide) rfl (fun ls hl => ?_)
  exact L2 N σ x1 (0 : Int32) H locs ls hP hD hS (lv_sub hl [1, 2, 0] rfl) h
set_option maxRecDepth 100000 in
set_option maxHeartbeats 4000000 in
theorem c_E_bitsOf (l : Launch) (D : va_G) (ca : Nat → ClassId) (g : Bool) (a : Nat → Nat) (tl : va_W) (N : Nat) (σ σ' : St) (x2 : Int32) (r : Int32) (h : f_E_bitsOf N σ x2 = some (r, σ')) : CtI l y_E_bitsOf ws_E_bitsOf rm_E_bitsOf 0 0 D vCl (tyX ca) nwX [.ref (a 6), .ref (a 14), .int x2] (wX g ca a σ ++ tl) (wX g ca a σ' ++ tl) r := by
  refine en_I (ws' := BIG) (by decide +kernel) rfl (Nat.le_of_ble_eq_true rfl) ?_
  intro p e s m below meth c A ls R args H locs hR hx hb hr hlk hml hown hB hK hN hP hD hA hS hl
  have hl : lv_has ls 3 [(0, .ref (a 6)), (1, .ref (a 14)), (2, .int x2)] := hl
  unfold f_E_bitsOf at h
  refine lv_aload_n hx hb d_E_bitsOf_0 rfl (lv_at hl 0 rfl) ?_
  refine lv_iload_n hx hb d_E_bitsOf_1 rfl (lv_at hl 2 rfl) ?_
  obtain ⟨r1, s2, hr1, h⟩ := bd_some h
  refine go_VI (rest := []) ⟨hx, hb, hml, hown, hB⟩ nwX_ok (c_E_has l D ca g a tl N σ s2 x2 r1 hr1) (cwx_V hB m_464 kw_E_has ⟨by rw [hR]; decide, by rw [hR]; decide⟩ rfl rfl) (va_recv hK hP (ci := 5) (q0 := 6) rfl rfl) hN hK hP hD hS hA rfl hl.1 rfl (Nat.le_of_ble_eq_true rfl) d_E_bitsOf_2 ⟨by rw [hR]; exact Nat.le_of_ble_eq_true rfl, by rw [hR]; exact Nat.le_of_ble_eq_true rfl⟩ (fun H locs hP hD hS => ?_)
  refine lv_if_eq (tgt := 14) hx hb d_E_bitsOf_5 (by decide) (fun hc => ?_) (fun hc => ?_)
  · replace h := it_t h hc
    refine lv_iconst (v := (0 : Int32)) hx hb d_E_bitsOf_14 (by decide) ?_
    exact rf_I (w := (fun z => wX g ca a z ++ tl)) h hx hb hr hlk hK hP hD hS d_E_bitsOf_15
  · replace h := it_f h hc
    refine lv_aload_n hx hb d_E_bitsOf_8 rfl (lv_at hl 1 rfl) ?_
    refine lv_iload_n hx hb d_E_bitsOf_9 rfl (lv_at hl 2 rfl) ?_
    obtain ⟨hi, h⟩ := ckb_some h
    refine Xa_14 hx hb hK hP hi d_E_bitsOf_10 ?_
    refine lv_goto (tgt := 15) hx hb d_E_bitsOf_11 (by decide) ?_
    exact rf_I (w := (fun z => wX g ca a z ++ tl)) h hx hb hr hlk hK hP hD hS d_E_bitsOf_15
set_option maxRecDepth 100000 in
set_option maxHeartbeats 4000000 in
theorem c_E_bitsOf_1 (l : Launch) (D : va_G) (ca : Nat → ClassId) (g : Bool) (a : Nat → Nat) (tl : va_W) (N : Nat) (σ σ' : St) (x2 : Int32) (r : Int32) (h : f_E_bitsOf_1 N σ x2 = some (r, σ')) : CtI l y_E_bitsOf ws_E_bitsOf rm_E_bitsOf_1 0 0 D vCl (tyX ca) nwX [.ref (a 6), .ref (a 13), .int x2] (wX g ca a σ ++ tl) (wX g ca a σ' ++ tl) r := by
  refine en_I (ws' := BIG) (by decide +kernel) rfl (Nat.le_of_ble_eq_true rfl) ?_
  intro p e s m below meth c A ls R args H locs hR hx hb hr hlk hml hown hB hK hN hP hD hA hS hl
  have hl : lv_has ls 3 [(0, .ref (a 6)), (1, .ref (a 13)), (2, .int x2)] := hl
  unfold f_E_bitsOf_1 at h
  refine lv_aload_n hx hb d_E_bitsOf_0 rfl (lv_at hl 0 rfl) ?_
  refine lv_iload_n hx hb d_E_bitsOf_1 rfl (lv_at hl 2 rfl) ?_
  obtain ⟨r1, s2, hr1, h⟩ := bd_some h
  refine go_VI (rest := []) ⟨hx, hb, hml, hown, hB⟩ nwX_ok (c_E_has l D ca g a tl N σ s2 x2 r1 hr1) (cwx_V hB m_464 kw_E_has ⟨by rw [hR]; decide, by rw [hR]; decide⟩ rfl rfl) (va_recv hK hP (ci := 5) (q0 := 6) rfl rfl) hN hK hP hD hS hA rfl hl.1 rfl (Nat.le_of_ble_eq_true rfl) d_E_bitsOf_2 ⟨by rw [hR]; exact Nat.le_of_ble_eq_true rfl, by rw [hR]; exact Nat.le_of_ble_eq_true rfl⟩ (fun H locs hP hD hS => ?_)
  refine lv_if_eq (tgt := 14) hx hb d_E_bitsOf_5 (by decide) (fun hc => ?_) (fun hc => ?_)
  · replace h := it_t h hc
    refine lv_iconst (v := (0 : Int32)) hx hb d_E_bitsOf_14 (by decide) ?_
    exact rf_I (w := (fun z => wX g ca a z ++ tl)) h hx hb hr hlk hK hP hD hS d_E_bitsOf_15
  · replace h := it_f h hc
    refine lv_aload_n hx hb d_E_bitsOf_8 rfl (lv_at hl 1 rfl) ?_
    refine lv_iload_n hx hb d_E_bitsOf_9 rfl (lv_at hl 2 rfl) ?_
    obtain ⟨hi, h⟩ := ckb_some h
    refine Xa_13 hx hb hK hP hi d_E_bitsOf_10 ?_
    refine lv_goto (tgt := 15) hx hb d_E_bitsOf_11 (by decide) ?_
    exact rf_I (w := (fun z => wX g ca a z ++ tl)) h hx hb hr hlk hK hP hD hS d_E_bitsOf_15
set_option maxRecDepth 100000 in
set_option maxHeartbeats 4000000 in
theorem c_E_add (l : Launch) (D : va_G) (ca : Nat → ClassId) (g : Bool) (a : Nat → Nat) (tl : va_W) (N : Nat) (σ σ' : St) (x1 : Int32) (x2 : Int64) (x4 : Int32) (x5 : Int32) (r : Int32) (h : f_E_add N σ x1 x2 x4 x5 = some (r, σ')) : CtI l y_E_add ws_E_add rm_E_add 0 0 D vCl (tyX ca) nwX [.ref (a 6), .int x1, .long x2, .int x4, .int x5] (wX g ca a σ ++ tl) (wX g ca a σ' ++ tl) r := by
  refine en_I (ws' := BIG) (by decide +kernel) rfl (Nat.le_of_ble_eq_true rfl) ?_
  intro p e s m below meth c A ls R args H locs hR hx hb hr hlk hml hown hB hK hN hP hD hA hS hl
  have hl : lv_has ls 7 [(0, .ref (a 6)), (1, .int x1), (2, .long x2), (4, .int x4), (5, .int x5)] := hl
  unfold f_E_add at h
  refine lv_aload_n hx hb d_E_add_0 rfl (lv_at hl 0 rfl) ?_
  refine Xg_6_0 hx hb hB hown (hB _ m_131) hK hP d_E_add_1 ?_
  refine lv_istore (lv' := [(6, .int (gi σ 1)), (0, .ref (a 6)), (1, .int x1), (2, .long x2), (4, .int x4), (5, .int x5)]) hx hb d_E_add_4 hl (by decide) rfl (fun ls hl => ?_)
  refine lv_aload_n hx hb d_E_add_6 rfl (lv_at hl 1 rfl) ?_
  refine Xg_6_2 hx hb hB hown (hB _ m_137) hK hP d_E_add_7 ?_
  refine lv_iload hx hb d_E_add_10 (lv_at hl 0 rfl) ?_
  refine lv_iload_n hx hb d_E_add_12 rfl (lv_at hl 2 rfl) ?_
  obtain ⟨hi, h⟩ := ckb_some h
  obtain ⟨s1, es1, h⟩ := nm_some h
  refine Xs_7 es1 hx hb hK hP hD hS hi d_E_add_13 (fun H locs hP hD hS => ?_)
  refine lv_aload_n hx hb d_E_add_14 rfl (lv_at hl 1 rfl) ?_
  refine Xg_6_3 hx hb hB hown (hB _ m_140) hK hP d_E_add_15 ?_
  refine lv_iload hx hb d_E_add_18 (lv_at hl 0 rfl) ?_
  refine lv_lload_n hx hb d_E_add_20 rfl (lv_at hl 3 rfl) ?_
  obtain ⟨hi, h⟩ := ckb_some h
  obtain ⟨s2, es2, h⟩ := nm_some h
  refine Xs_8 es2 hx hb hK hP hD hS hi d_E_add_21 (fun H locs hP hD hS => ?_)
  refine lv_aload_n hx hb d_E_add_22 rfl (lv_at hl 1 rfl) ?_
  refine Xg_6_4 hx hb hB hown (hB _ m_142) hK hP d_E_add_23 ?_
  refine lv_iload hx hb d_E_add_26 (lv_at hl 0 rfl) ?_
  refine lv_iload hx hb d_E_add_28 (lv_at hl 4 rfl) ?_
  obtain ⟨hi, h⟩ := ckb_some h
  obtain ⟨s3, es3, h⟩ := nm_some h
  refine Xs_9 es3 hx hb hK hP hD hS hi d_E_add_30 (fun H locs hP hD hS => ?_)
  refine lv_aload_n hx hb d_E_add_31 rfl (lv_at hl 1 rfl) ?_
  refine Xg_6_5 hx hb hB hown (hB _ m_145) hK hP d_E_add_32 ?_
  refine lv_iload hx hb d_E_add_35 (lv_at hl 0 rfl) ?_
  refine lv_iload hx hb d_E_add_37 (lv_at hl 5 rfl) ?_
  obtain ⟨hi, h⟩ := ckb_some h
  obtain ⟨s4, es4, h⟩ := nm_some h
  refine Xs_10 es4 hx hb hK hP hD hS hi d_E_add_39 (fun H locs hP hD hS => ?_)
  refine lv_aload_n hx hb d_E_add_40 rfl (lv_at hl 1 rfl) ?_
  refine Xg_6_6 hx hb hB hown (hB _ m_148) hK hP d_E_add_41 ?_
  refine lv_iload hx hb d_E_add_44 (lv_at hl 0 rfl) ?_
  refine lv_iconst (v := (1 : Int32)) hx hb d_E_add_46 (by decide) ?_
  refine lv_aload_n hx hb d_E_add_47 rfl (lv_at hl 1 rfl) ?_
  refine lv_iload hx hb d_E_add_48 (lv_at hl 4 rfl) ?_
  obtain ⟨r5, s6, hr5, h⟩ := bd_some h
  refine go_VI (rest := [.int (1 : Int32), .int (gi σ 1), .ref (a 11)]) ⟨hx, hb, hml, hown, hB⟩ nwX_ok (c_E_partsOf l D ca g a tl N s4 s6 x4 r5 hr5) (cwx_V hB m_460 kw_E_partsOf ⟨by rw [hR]; decide, by rw [hR]; decide⟩ rfl rfl) (va_recv hK hP (ci := 5) (q0 := 6) rfl rfl) hN hK hP hD hS hA rfl hl.1 rfl (Nat.le_of_ble_eq_true rfl) d_E_add_50 ⟨by rw [hR]; exact Nat.le_of_ble_eq_true rfl, by rw [hR]; exact Nat.le_of_ble_eq_true rfl⟩ (fun H locs hP hD hS => ?_)
  refine lv_iadd hx hb d_E_add_53 ?_
  refine lv_aload_n hx hb d_E_add_54 rfl (lv_at hl 1 rfl) ?_
  refine lv_iload hx hb d_E_add_55 (lv_at hl 5 rfl) ?_
  obtain ⟨r7, s8, hr7, h⟩ := bd_some h
  refine go_VI (rest := [.int ((1 : Int32) + r5), .int (gi σ 1), .ref (a 11)]) ⟨hx, hb, hml, hown, hB⟩ nwX_ok (c_E_partsOf l D ca g a tl N s6 s8 x5 r7 hr7) (cwx_V hB m_460 kw_E_partsOf ⟨by rw [hR]; decide, by rw [hR]; decide⟩ rfl rfl) (va_recv hK hP (ci := 5) (q0 := 6) rfl rfl) hN hK hP hD hS hA rfl hl.1 rfl (Nat.le_of_ble_eq_true rfl) d_E_add_57 ⟨by rw [hR]; exact Nat.le_of_ble_eq_true rfl, by rw [hR]; exact Nat.le_of_ble_eq_true rfl⟩ (fun H locs hP hD hS => ?_)
  refine lv_iadd hx hb d_E_add_60 ?_
  obtain ⟨hi, h⟩ := ckb_some h
  obtain ⟨s9, es9, h⟩ := nm_some h
  refine Xs_11 es9 hx hb hK hP hD hS hi d_E_add_61 (fun H locs hP hD hS => ?_)
  refine lv_aload_n hx hb d_E_add_62 rfl (lv_at hl 1 rfl) ?_
  refine Xg_6_8 hx hb hB hown (hB _ m_150) hK hP d_E_add_63 ?_
  refine lv_iload hx hb d_E_add_66 (lv_at hl 0 rfl) ?_
  refine lv_iload_n hx hb d_E_add_68 rfl (lv_at hl 2 rfl) ?_
  refine lv_bipush (v := (15 : Int32)) hx hb d_E_add_69 (by decide) ?_
  have L102 : ∀ (σ : St) (x1 : Int32) (x2 : Int64) (x4 : Int32) (x5 : Int32) (x6 : Int32) (t0 : Int32) (t1 : Int32) (H : Heap) (locs : List Loc) (ls : Array Slot), va_P D vCl (wX g ca a σ ++ tl) H → va_D A (wX g ca a σ ++ tl) → va_S A s.heap H locs → lv_has ls 7 [(0, .ref (a 6)), (1, .int x1), (2, .long x2), (4, .int x4), (5, .int x5), (6, .int x6)] → f_E_add_102 N σ x1 x2 x4 x5 x6 t0 t1 = some (r, σ') → W p l e R s m args below meth c H locs 0 0 (MQ below (qb_QI D vCl (tyX ca) (wX g ca a σ' ++ tl) A r) args s 0 0 A) (F0 m 102 ls [.int t0, .int t1, .ref (a 13)]) := by
    intro σ x1 x2 x4 x5 x6 t0 t1 H locs ls hP hD hS hl h
    unfold f_E_add_102 at h
    obtain ⟨hi, h⟩ := ckb_some h
    obtain ⟨s10, es10, h⟩ := nm_some h
    refine Xs_13 es10 hx hb hK hP hD hS hi d_E_add_102 (fun H locs hP hD hS => ?_)
    refine lv_aload_n hx hb d_E_add_103 rfl (lv_at hl 0 rfl) ?_
    refine Xg_6_9 hx hb hB hown (hB _ m_152) hK hP d_E_add_104 ?_
    refine lv_iload hx hb d_E_add_107 (lv_at hl 5 rfl) ?_
    refine lv_iload_n hx hb d_E_add_109 rfl (lv_at hl 1 rfl) ?_
    refine lv_bipush (v := (16 : Int32)) hx hb d_E_add_110 (by decide) ?_
    have L143 : ∀ (σ : St) (x6 : Int32) (t0 : Int32) (t1 : Int32) (H : Heap) (locs : List Loc) (ls : Array Slot), va_P D vCl (wX g ca a σ ++ tl) H → va_D A (wX g ca a σ ++ tl) → va_S A s.heap H locs → lv_has ls 7 [(0, .ref (a 6)), (6, .int x6)] → f_E_add_143 N σ x6 t0 t1 = some (r, σ') → W p l e R s m args below meth c H locs 0 0 (MQ below (qb_QI D vCl (tyX ca) (wX g ca a σ' ++ tl) A r) args s 0 0 A) (F0 m 143 ls [.int t0, .int t1, .ref (a 14)]) := by
      intro σ x6 t0 t1 H locs ls hP hD hS hl h
      unfold f_E_add_143 at h
      obtain ⟨hi, h⟩ := ckb_some h
      obtain ⟨s11, es11, h⟩ := nm_some h
      refine Xs_14 es11 hx hb hK hP hD hS hi d_E_add_143 (fun H locs hP hD hS => ?_)
      refine lv_aload_n hx hb d_E_add_144 rfl (lv_at hl 0 rfl) ?_
      refine Xg_6_7 hx hb hB hown (hB _ m_149) hK hP d_E_add_145 ?_
      refine lv_iload hx hb d_E_add_148 (lv_at hl 1 rfl) ?_
      refine lv_aload_n hx hb d_E_add_150 rfl (lv_at hl 0 rfl) ?_
      refine lv_iload hx hb d_E_add_151 (lv_at hl 1 rfl) ?_
      obtain ⟨r12, s13, hr12, h⟩ := bd_some h
      refine go_VI (rest := [.int x6, .ref (a 12)]) ⟨hx, hb, hml, hown, hB⟩ nwX_ok (c_E_firstLike l D ca g a tl N s11 s13 x6 r12 hr12) (cwx_V hB m_476 kw_E_firstLike ⟨by rw [hR]; decide, by rw [hR]; decide⟩ rfl rfl) (va_recv hK hP (ci := 5) (q0 := 6) rfl rfl) hN hK hP hD hS hA rfl hl.1 rfl (Nat.le_of_ble_eq_true rfl) d_E_add_153 ⟨by rw [hR]; exact Nat.le_of_ble_eq_true rfl, by rw [hR]; exact Nat.le_of_ble_eq_true rfl⟩ (fun H locs hP hD hS => ?_)
      obtain ⟨hi, h⟩ := ckb_some h
      obtain ⟨s14, es14, h⟩ := nm_some h
      refine Xs_12 es14 hx hb hK hP hD hS hi d_E_add_156 (fun H locs hP hD hS => ?_)
      refine lv_aload_n hx hb d_E_add_157 rfl (lv_at hl 0 rfl) ?_
      refine lv_dup hx hb d_E_add_158 rfl ?_
      refine Xg_6_0 hx hb hB hown (hB _ m_131) hK hP d_E_add_159 ?_
      refine lv_iconst (v := (1 : Int32)) hx hb d_E_add_162 (by decide) ?_
      refine lv_iadd hx hb d_E_add_163 ?_
      obtain ⟨s15, es15, h⟩ := nm_some h
      refine Xp_6_0 es15 hx hb hB hown (hB _ m_131) hK hP hD hS d_E_add_164 (fun H locs hP hD hS => ?_)
      refine lv_iload hx hb d_E_add_167 (lv_at hl 1 rfl) ?_
      exact rf_I (w := (fun z => wX g ca a z ++ tl)) h hx hb hr hlk hK hP hD hS d_E_add_169
    refine lv_icmp_ne (tgt := 122) hx hb d_E_add_112 (by decide) (fun hc => ?_) (fun hc => ?_)
    · replace h := it_f h hc
      refine lv_aload_n hx hb d_E_add_122 rfl (lv_at hl 0 rfl) ?_
      refine lv_aload_n hx hb d_E_add_123 rfl (lv_at hl 0 rfl) ?_
      refine Xg_6_9 hx hb hB hown (hB _ m_152) hK hP d_E_add_124 ?_
      refine lv_iload hx hb d_E_add_127 (lv_at hl 3 rfl) ?_
      obtain ⟨r16, s17, hr16, h⟩ := bd_some h
      refine go_VI (rest := [.int x6, .ref (a 14)]) ⟨hx, hb, hml, hown, hB⟩ nwX_ok (c_E_bitsOf l D ca g a tl N s10 s17 x4 r16 hr16) (cwx_V hB m_472 kw_E_bitsOf ⟨by rw [hR]; decide, by rw [hR]; decide⟩ rfl rfl) (va_recv hK hP (ci := 5) (q0 := 6) rfl rfl) hN hK hP hD hS hA rfl hl.1 rfl (Nat.le_of_ble_eq_true rfl) d_E_add_129 ⟨by rw [hR]; exact Nat.le_of_ble_eq_true rfl, by rw [hR]; exact Nat.le_of_ble_eq_true rfl⟩ (fun H locs hP hD hS => ?_)
      refine lv_aload_n hx hb d_E_add_132 rfl (lv_at hl 0 rfl) ?_
      refine lv_aload_n hx hb d_E_add_133 rfl (lv_at hl 0 rfl) ?_
      refine Xg_6_9 hx hb hB hown (hB _ m_152) hK hP d_E_add_134 ?_
      refine lv_iload hx hb d_E_add_137 (lv_at hl 4 rfl) ?_
      obtain ⟨r18, s19, hr18, h⟩ := bd_some h
      refine go_VI (rest := [.int r16, .int x6, .ref (a 14)]) ⟨hx, hb, hml, hown, hB⟩ nwX_ok (c_E_bitsOf l D ca g a tl N s17 s19 x5 r18 hr18) (cwx_V hB m_472 kw_E_bitsOf ⟨by rw [hR]; decide, by rw [hR]; decide⟩ rfl rfl) (va_recv hK hP (ci := 5) (q0 := 6) rfl rfl) hN hK hP hD hS hA rfl hl.1 rfl (Nat.le_of_ble_eq_true rfl) d_E_add_139 ⟨by rw [hR]; exact Nat.le_of_ble_eq_true rfl, by rw [hR]; exact Nat.le_of_ble_eq_true rfl⟩ (fun H locs hP hD hS => ?_)
      refine lv_ior hx hb d_E_add_142 ?_
      exact L143 s19 x6 (r16 ||| r18) x6 H locs ls hP hD hS (lv_sub hl [0, 5] rfl) h
    · replace h := it_t h hc
      refine lv_iconst (v := (1 : Int32)) hx hb d_E_add_115 (by decide) ?_
      refine lv_lload_n hx hb d_E_add_116 rfl (lv_at hl 2 rfl) ?_
      refine lv_l2i hx hb d_E_add_117 rfl ?_
      refine lv_ishl hx hb d_E_add_118 ?_
      refine lv_goto (tgt := 143) hx hb d_E_add_119 (by decide) ?_
      exact L143 s10 x6 ((1 : Int32) <<< ((x2).toInt32 &&& 31)) x6 H locs ls hP hD hS (lv_sub hl [0, 5] rfl) h
  refine lv_icmp_ne (tgt := 81) hx hb d_E_add_71 (by decide) (fun hc => ?_) (fun hc => ?_)
  · replace h := it_f h hc
    refine lv_aload_n hx hb d_E_add_81 rfl (lv_at hl 1 rfl) ?_
    refine lv_aload_n hx hb d_E_add_82 rfl (lv_at hl 1 rfl) ?_
    refine Xg_6_8 hx hb hB hown (hB _ m_150) hK hP d_E_add_83 ?_
    refine lv_iload hx hb d_E_add_86 (lv_at hl 4 rfl) ?_
    obtain ⟨r20, s21, hr20, h⟩ := bd_some h
    refine go_VI (rest := [.int (gi σ 1), .ref (a 13)]) ⟨hx, hb, hml, hown, hB⟩ nwX_ok (c_E_bitsOf_1 l D ca g a tl N s9 s21 x4 r20 hr20) (cwx_V hB m_472 kw_E_bitsOf ⟨by rw [hR]; decide, by rw [hR]; decide⟩ rfl rfl) (va_recv hK hP (ci := 5) (q0 := 6) rfl rfl) hN hK hP hD hS hA rfl hl.1 rfl (Nat.le_of_ble_eq_true rfl) d_E_add_88 ⟨by rw [hR]; exact Nat.le_of_ble_eq_true rfl, by rw [hR]; exact Nat.le_of_ble_eq_true rfl⟩ (fun H locs hP hD hS => ?_)
    refine lv_aload_n hx hb d_E_add_91 rfl (lv_at hl 1 rfl) ?_
    refine lv_aload_n hx hb d_E_add_92 rfl (lv_at hl 1 rfl) ?_
    refine Xg_6_8 hx hb hB hown (hB _ m_150) hK hP d_E_add_93 ?_
    refine lv_iload hx hb d_E_add_96 (lv_at hl 5 rfl) ?_
    obtain ⟨r22, s23, hr22, h⟩ := bd_some h
    refine go_VI (rest := [.int r20, .int (gi σ 1), .ref (a 13)]) ⟨hx, hb, hml, hown, hB⟩ nwX_ok (c_E_bitsOf_1 l D ca g a tl N s21 s23 x5 r22 hr22) (cwx_V hB m_472 kw_E_bitsOf ⟨by rw [hR]; decide, by rw [hR]; decide⟩ rfl rfl) (va_recv hK hP (ci := 5) (q0 := 6) rfl rfl) hN hK hP hD hS hA rfl hl.1 rfl (Nat.le_of_ble_eq_true rfl) d_E_add_98 ⟨by rw [hR]; exact Nat.le_of_ble_eq_true rfl, by rw [hR]; exact Nat.le_of_ble_eq_true rfl⟩ (fun H locs hP hD hS => ?_)
    refine lv_ior hx hb d_E_add_101 ?_
    exact L102 s23 x1 x2 x4 x5 (gi σ 1) (r20 ||| r22) (gi σ 1) H locs ls hP hD hS (lv_sub hl [1, 2, 3, 4, 5, 0] rfl) h
  · replace h := it_t h hc
    refine lv_iconst (v := (1 : Int32)) hx hb d_E_add_74 (by decide) ?_
    refine lv_lload_n hx hb d_E_add_75 rfl (lv_at hl 3 rfl) ?_
    refine lv_l2i hx hb d_E_add_76 rfl ?_
    refine lv_ishl hx hb d_E_add_77 ?_
    refine lv_goto (tgt := 102) hx hb d_E_add_78 (by decide) ?_
    exact L102 s9 x1 x2 x4 x5 (gi σ 1) ((1 : Int32) <<< ((x2).toInt32 &&& 31)) (gi σ 1) H locs ls hP hD hS (lv_sub hl [1, 2, 3, 4, 5, 0] rfl) h
