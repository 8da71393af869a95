set_option maxRecDepth 100000 in
set_option maxHeartbeats 4000000 in
theorem c_Q_constant (l : Launch) (D : va_G) (ca : Nat → ClassId) (g : Bool) (a : Nat → Nat) (tl : va_W) (N : Nat) (σ σ' : St) (x1 : Int64) (x3 : Int32) (r : Int32) (h : f_Q_constant N σ x1 x3 = some (r, σ')) : CtI l y_Q_constant ws_Q_constant rm_Q_constant 0 0 D vCl (tyX ca) nwX [.ref (a 0), .long x1, .int x3] (wX g ca a σ ++ tl) (wX g ca a σ' ++ tl) r := by
  refine en_I (ws' := BIG) (by decide +kernel) rfl (Nat.le_of_ble_eq_true rfl) ?_
  intro p e s m below meth c A ls R args H locs hR hx hb hr hlk hml hown hB hK hN hP hD hA hS hl
  have hl : lv_has ls 4 [(0, .ref (a 0)), (1, .long x1), (3, .int x3)] := hl
  unfold f_Q_constant at h
  refine lv_lload_n hx hb d_Q_constant_0 rfl (lv_at hl 1 rfl) ?_
  obtain ⟨r1, s2, hr1, h⟩ := bd_some h
  refine go_SI (rest := []) ⟨hx, hb, hml, hown, hB⟩ nwX_ok (c_Q_isOutside l D ca g a tl N σ s2 x1 r1 hr1) (cwx_S hB m_424 kw_Q_isOutside ⟨by rw [hR]; decide, by rw [hR]; decide⟩ rfl rfl) hN hK hP hD hS hA rfl hl.1 rfl (Nat.le_of_ble_eq_true rfl) d_Q_constant_1 ⟨by rw [hR]; exact Nat.le_of_ble_eq_true rfl, by rw [hR]; exact Nat.le_of_ble_eq_true rfl⟩ (fun H locs hP hD hS => ?_)
  refine lv_if_eq (tgt := 10) hx hb d_Q_constant_4 (by decide) (fun hc => ?_) (fun hc => ?_)
  · replace h := it_t h hc
    refine lv_aload_n hx hb d_Q_constant_10 rfl (lv_at hl 0 rfl) ?_
    refine Xg_0_1 hx hb hB hown (hB _ m_390) hK hP d_Q_constant_11 ?_
    refine lv_iconst (v := (-1 : Int32)) hx hb d_Q_constant_14 (by decide) ?_
    refine lv_iconst (v := (-1 : Int32)) hx hb d_Q_constant_15 (by decide) ?_
    obtain ⟨r3, s4, hr3, h⟩ := bd_some h
    refine go_VI (rest := []) ⟨hx, hb, hml, hown, hB⟩ nwX_ok (c_E_hasRoom l D ca g a tl N s2 s4 (-1 : Int32) (-1 : Int32) r3 hr3) (cwx_V hB m_456 kw_E_hasRoom ⟨by rw [hR]; decide, by rw [hR]; decide⟩ rfl rfl) (va_recv hK hP (ci := 5) (q0 := 6) rfl rfl) hN hK hP hD hS hA rfl hl.1 rfl (Nat.le_of_ble_eq_true rfl) d_Q_constant_16 ⟨by rw [hR]; exact Nat.le_of_ble_eq_true rfl, by rw [hR]; exact Nat.le_of_ble_eq_true rfl⟩ (fun H locs hP hD hS => ?_)
    refine lv_if_ne (tgt := 25) hx hb d_Q_constant_19 (by decide) (fun hc => ?_) (fun hc => ?_)
    · replace h := it_f h hc
      refine lv_iload_n hx hb d_Q_constant_25 rfl (lv_at hl 2 rfl) ?_
      refine lv_if_eq (tgt := 44) hx hb d_Q_constant_26 (by decide) (fun hc => ?_) (fun hc => ?_)
      · replace h := it_t h hc
        refine lv_aload_n hx hb d_Q_constant_44 rfl (lv_at hl 0 rfl) ?_
        refine Xg_0_1 hx hb hB hown (hB _ m_390) hK hP d_Q_constant_45 ?_
        refine lv_bipush (v := (13 : Int32)) hx hb d_Q_constant_48 (by decide) ?_
        refine lv_lload_n hx hb d_Q_constant_50 rfl (lv_at hl 1 rfl) ?_
        refine lv_iconst (v := (-1 : Int32)) hx hb d_Q_constant_51 (by decide) ?_
        refine lv_iconst (v := (-1 : Int32)) hx hb d_Q_constant_52 (by decide) ?_
        obtain ⟨r5, s6, hr5, h⟩ := bd_some h
        refine go_VI (rest := []) ⟨hx, hb, hml, hown, hB⟩ nwX_ok (c_E_add l D ca g a tl N s4 s6 (13 : Int32) x1 (-1 : Int32) (-1 : Int32) r5 hr5) (cwx_V hB m_468 kw_E_add ⟨by rw [hR]; decide, by rw [hR]; decide⟩ rfl rfl) (va_recv hK hP (ci := 5) (q0 := 6) rfl rfl) hN hK hP hD hS hA rfl hl.1 rfl (Nat.le_of_ble_eq_true rfl) d_Q_constant_53 ⟨by rw [hR]; exact Nat.le_of_ble_eq_true rfl, by rw [hR]; exact Nat.le_of_ble_eq_true rfl⟩ (fun H locs hP hD hS => ?_)
        exact rf_I (w := (fun z => wX g ca a z ++ tl)) h hx hb hr hlk hK hP hD hS d_Q_constant_56
      · replace h := it_f h hc
        refine lv_aload_n hx hb d_Q_constant_29 rfl (lv_at hl 0 rfl) ?_
        refine Xg_0_1 hx hb hB hown (hB _ m_390) hK hP d_Q_constant_30 ?_
        refine lv_bipush (v := (14 : Int32)) hx hb d_Q_constant_33 (by decide) ?_
        refine lv_lconst (v := (0 : Int64)) hx hb d_Q_constant_35 (by decide) ?_
        refine lv_iconst (v := (-1 : Int32)) hx hb d_Q_constant_36 (by decide) ?_
        refine lv_iconst (v := (-1 : Int32)) hx hb d_Q_constant_37 (by decide) ?_
        obtain ⟨r7, s8, hr7, h⟩ := bd_some h
        refine go_VI (rest := []) ⟨hx, hb, hml, hown, hB⟩ nwX_ok (c_E_add l D ca g a tl N s4 s8 (14 : Int32) (0 : Int64) (-1 : Int32) (-1 : Int32) r7 hr7) (cwx_V hB m_468 kw_E_add ⟨by rw [hR]; decide, by rw [hR]; decide⟩ rfl rfl) (va_recv hK hP (ci := 5) (q0 := 6) rfl rfl) hN hK hP hD hS hA rfl hl.1 rfl (Nat.le_of_ble_eq_true rfl) d_Q_constant_38 ⟨by rw [hR]; exact Nat.le_of_ble_eq_true rfl, by rw [hR]; exact Nat.le_of_ble_eq_true rfl⟩ (fun H locs hP hD hS => ?_)
        refine lv_goto (tgt := 56) hx hb d_Q_constant_41 (by decide) ?_
        exact rf_I (w := (fun z => wX g ca a z ++ tl)) h hx hb hr hlk hK hP hD hS d_Q_constant_56
    · replace h := it_t h hc
      refine lv_bipush (v := (-104 : Int32)) hx hb d_Q_constant_22 (by decide) ?_
      exact rf_I (w := (fun z => wX g ca a z ++ tl)) h hx hb hr hlk hK hP hD hS d_Q_constant_24
  · replace h := it_f h hc
    refine lv_bipush (v := (-102 : Int32)) hx hb d_Q_constant_7 (by decide) ?_
    exact rf_I (w := (fun z => wX g ca a z ++ tl)) h hx hb hr hlk hK hP hD hS d_Q_constant_9
set_option maxRecDepth 100000 in
set_option maxHeartbeats 4000000 in
theorem c_Q_column (l : Launch) (D : va_G) (ca : Nat → ClassId) (g : Bool) (a : Nat → Nat) (tl : va_W) (N : Nat) (σ σ' : St) (x1 : Int32) (x2 : Int32) (r : Int32) (h : f_Q_column N σ x1 x2 = some (r, σ')) : CtI l y_Q_column ws_Q_column rm_Q_column 0 0 D vCl (tyX ca) nwX [.ref (a 0), .int x1, .int x2] (wX g ca a σ ++ tl) (wX g ca a σ' ++ tl) r := by
  refine en_I (ws' := BIG) (by decide +kernel) rfl (Nat.le_of_ble_eq_true rfl) ?_
  intro p e s m below meth c A ls R args H locs hR hx hb hr hlk hml hown hB hK hN hP hD hA hS hl
  have hl : lv_has ls 3 [(0, .ref (a 0)), (1, .int x1), (2, .int x2)] := hl
  unfold f_Q_column at h
  refine lv_iload_n hx hb d_Q_column_0 rfl (lv_at hl 1 rfl) ?_
  refine lv_if_lt (tgt := 18) hx hb d_Q_column_1 (by decide) (fun hc => ?_) (fun hc => ?_)
  · replace h := it_t h hc
    refine lv_bipush (v := (-102 : Int32)) hx hb d_Q_column_18 (by decide) ?_
    exact rf_I (w := (fun z => wX g ca a z ++ tl)) h hx hb hr hlk hK hP hD hS d_Q_column_20
  · replace h := it_f h hc
    refine lv_iload_n hx hb d_Q_column_4 rfl (lv_at hl 1 rfl) ?_
    refine lv_iconst (v := (3 : Int32)) hx hb d_Q_column_5 (by decide) ?_
    refine lv_icmp_ge (tgt := 18) hx hb d_Q_column_6 (by decide) (fun hc => ?_) (fun hc => ?_)
    · replace h := it_t h hc
      refine lv_bipush (v := (-102 : Int32)) hx hb d_Q_column_18 (by decide) ?_
      exact rf_I (w := (fun z => wX g ca a z ++ tl)) h hx hb hr hlk hK hP hD hS d_Q_column_20
    · replace h := it_f h hc
      refine lv_iload_n hx hb d_Q_column_9 rfl (lv_at hl 2 rfl) ?_
      refine lv_if_lt (tgt := 18) hx hb d_Q_column_10 (by decide) (fun hc => ?_) (fun hc => ?_)
      · replace h := it_t h hc
        refine lv_bipush (v := (-102 : Int32)) hx hb d_Q_column_18 (by decide) ?_
        exact rf_I (w := (fun z => wX g ca a z ++ tl)) h hx hb hr hlk hK hP hD hS d_Q_column_20
      · replace h := it_f h hc
        refine lv_iload_n hx hb d_Q_column_13 rfl (lv_at hl 2 rfl) ?_
        refine lv_iconst (v := (4 : Int32)) hx hb d_Q_column_14 (by decide) ?_
        refine lv_icmp_lt (tgt := 21) hx hb d_Q_column_15 (by decide) (fun hc => ?_) (fun hc => ?_)
        · replace h := it_t h hc
          refine lv_aload_n hx hb d_Q_column_21 rfl (lv_at hl 0 rfl) ?_
          refine Xg_0_1 hx hb hB hown (hB _ m_390) hK hP d_Q_column_22 ?_
          refine lv_iconst (v := (-1 : Int32)) hx hb d_Q_column_25 (by decide) ?_
          refine lv_iconst (v := (-1 : Int32)) hx hb d_Q_column_26 (by decide) ?_
          obtain ⟨r1, s2, hr1, h⟩ := bd_some h
          refine go_VI (rest := []) ⟨hx, hb, hml, hown, hB⟩ nwX_ok (c_E_hasRoom l D ca g a tl N σ s2 (-1 : Int32) (-1 : Int32) r1 hr1) (cwx_V hB m_456 kw_E_hasRoom ⟨by rw [hR]; decide, by rw [hR]; decide⟩ rfl rfl) (va_recv hK hP (ci := 5) (q0 := 6) rfl rfl) hN hK hP hD hS hA rfl hl.1 rfl (Nat.le_of_ble_eq_true rfl) d_Q_column_27 ⟨by rw [hR]; exact Nat.le_of_ble_eq_true rfl, by rw [hR]; exact Nat.le_of_ble_eq_true rfl⟩ (fun H locs hP hD hS => ?_)
          refine lv_if_ne (tgt := 36) hx hb d_Q_column_30 (by decide) (fun hc => ?_) (fun hc => ?_)
          · replace h := it_f h hc
            refine lv_aload_n hx hb d_Q_column_36 rfl (lv_at hl 0 rfl) ?_
            refine Xg_0_1 hx hb hB hown (hB _ m_390) hK hP d_Q_column_37 ?_
            refine lv_bipush (v := (15 : Int32)) hx hb d_Q_column_40 (by decide) ?_
            refine lv_iload_n hx hb d_Q_column_42 rfl (lv_at hl 1 rfl) ?_
            refine lv_iconst (v := (4 : Int32)) hx hb d_Q_column_43 (by decide) ?_
            refine lv_imul hx hb d_Q_column_44 ?_
            refine lv_iload_n hx hb d_Q_column_45 rfl (lv_at hl 2 rfl) ?_
            refine lv_iadd hx hb d_Q_column_46 ?_
            refine lv_i2l hx hb d_Q_column_47 rfl ?_
            refine lv_iconst (v := (-1 : Int32)) hx hb d_Q_column_48 (by decide) ?_
            refine lv_iconst (v := (-1 : Int32)) hx hb d_Q_column_49 (by decide) ?_
            obtain ⟨r3, s4, hr3, h⟩ := bd_some h
            refine go_VI (rest := []) ⟨hx, hb, hml, hown, hB⟩ nwX_ok (c_E_add l D ca g a tl N s2 s4 (15 : Int32) (((x1 * (4 : Int32)) + x2)).toInt64 (-1 : Int32) (-1 : Int32) r3 hr3) (cwx_V hB m_468 kw_E_add ⟨by rw [hR]; decide, by rw [hR]; decide⟩ rfl rfl) (va_recv hK hP (ci := 5) (q0 := 6) rfl rfl) hN hK hP hD hS hA rfl hl.1 rfl (Nat.le_of_ble_eq_true rfl) d_Q_column_50 ⟨by rw [hR]; exact Nat.le_of_ble_eq_true rfl, by rw [hR]; exact Nat.le_of_ble_eq_true rfl⟩ (fun H locs hP hD hS => ?_)
            exact rf_I (w := (fun z => wX g ca a z ++ tl)) h hx hb hr hlk hK hP hD hS d_Q_column_53
          · replace h := it_t h hc
            refine lv_bipush (v := (-104 : Int32)) hx hb d_Q_column_33 (by decide) ?_
            exact rf_I (w := (fun z => wX g ca a z ++ tl)) h hx hb hr hlk hK hP hD hS d_Q_column_35
        · replace h := it_f h hc
          refine lv_bipush (v := (-102 : Int32)) hx hb d_Q_column_18 (by decide) ?_
          exact rf_I (w := (fun z => wX g ca a z ++ tl)) h hx hb hr hlk hK hP hD hS d_Q_column_20
set_option maxRecDepth 100000 in
set_option maxHeartbeats 4000000 in
theorem c_E_isTruth (l : Launch) (D : va_G) (ca : Nat → ClassId) (g : Bool) (a : Nat → Nat) (tl : va_W) (N : Nat) (σ σ' : St) (x1 : Int32) (r : Int32) (h : f_E_isTruth N σ x1 = some (r, σ')) : CtI l y_E_isTruth ws_E_isTruth rm_E_isTruth 0 0 D vCl (tyX ca) nwX [.ref (a 6), .int x1] (wX g ca a σ ++ tl) (wX g ca a σ' ++ tl) r := by
  refine en_Z (ws' := BIG) (by decide +kernel) rfl (Nat.le_of_ble_eq_true rfl) ?_
  intro p e s m below meth c A ls R args H locs hR hx hb hr hlk hml hown hB hK hN hP hD hA hS hl
  have hl : lv_has ls 2 [(0, .ref (a 6)), (1, .int x1)] := hl
  unfold f_E_isTruth at h
  refine lv_aload_n hx hb d_E_isTruth_0 rfl (lv_at hl 0 rfl) ?_
  refine Xg_6_2 hx hb hB hown (hB _ m_137) hK hP d_E_isTruth_1 ?_
  refine lv_iload_n hx hb d_E_isTruth_4 rfl (lv_at hl 1 rfl) ?_
  obtain ⟨hi, h⟩ := ckb_some h
  refine Xa_7 hx hb hK hP hi d_E_isTruth_5 ?_
  refine lv_iconst (v := (5 : Int32)) hx hb d_E_isTruth_6 (by decide) ?_
  refine lv_icmp_lt (tgt := 25) hx hb d_E_isTruth_7 (by decide) (fun hc => ?_) (fun hc => ?_)
  · replace h := it_t h hc
    refine lv_iconst (v := (0 : Int32)) hx hb d_E_isTruth_25 (by decide) ?_
    exact rf_Z (w := (fun z => wX g ca a z ++ tl)) h hx hb hr hlk hK hP hD hS rfl d_E_isTruth_26
  · replace h := it_f h hc
    refine lv_aload_n hx hb d_E_isTruth_10 rfl (lv_at hl 0 rfl) ?_
    refine Xg_6_2 hx hb hB hown (hB _ m_137) hK hP d_E_isTruth_11 ?_
    refine lv_iload_n hx hb d_E_isTruth_14 rfl (lv_at hl 1 rfl) ?_
    obtain ⟨hi, h⟩ := ckb_some h
    refine Xa_7 hx hb hK hP hi d_E_isTruth_15 ?_
    refine lv_bipush (v := (12 : Int32)) hx hb d_E_isTruth_16 (by decide) ?_
    refine lv_icmp_gt (tgt := 25) hx hb d_E_isTruth_18 (by decide) (fun hc => ?_) (fun hc => ?_)
    · replace h := it_t h hc
      refine lv_iconst (v := (0 : Int32)) hx hb d_E_isTruth_25 (by decide) ?_
      exact rf_Z (w := (fun z => wX g ca a z ++ tl)) h hx hb hr hlk hK hP hD hS rfl d_E_isTruth_26
    · replace h := it_f h hc
      refine lv_iconst (v := (1 : Int32)) hx hb d_E_isTruth_21 (by decide) ?_
      refine lv_goto (tgt := 26) hx hb d_E_isTruth_22 (by decide) ?_
      exact rf_Z (w := (fun z => wX g ca a z ++ tl)) h hx hb hr hlk hK hP hD hS rfl d_E_isTruth_26
set_option maxRecDepth 100000 in
set_option maxHeartbeats 4000000 in
theorem c_Q_op (l : Launch) (D : va_G) (ca : Nat → ClassId) (g : Bool) (a : Nat → Nat) (tl : va_W) (N : Nat) (σ σ' : St) (x1 : Int32) (x2 : Int32) (x3 : Int32) (r : Int32) (h : f_Q_op N σ x1 x2 x3 = some (r, σ')) : CtI l y_Q_op ws_Q_op rm_Q_op 0 0 D vCl (tyX ca) nwX [.ref (a 0), .int x1, .int x2, .int x3] (wX g ca a σ ++ tl) (wX g ca a σ' ++ tl) r := by
  refine en_I (ws' := BIG) (by decide +kernel) rfl (Nat.le_of_ble_eq_true rfl) ?_
  intro p e s m below meth c A ls R args H locs hR hx hb hr hlk hml hown hB hK hN hP hD hA hS hl
  have hl : lv_has ls 7 [(0, .ref (a 0)), (1, .int x1), (2, .int x2), (3, .int x3)] := hl
  unfold f_Q_op at h
  refine lv_iload_n hx hb d_Q_op_0 rfl (lv_at hl 1 rfl) ?_
  refine lv_bipush (v := (11 : Int32)) hx hb d_Q_op_1 (by decide) ?_
  have L17 : ∀ (σ : St) (x1 : Int32) (x2 : Int32) (x3 : Int32) (t0 : Int32) (H : Heap) (locs : List Loc) (ls : Array Slot), va_P D vCl (wX g ca a σ ++ tl) H → va_D A (wX g ca a σ ++ tl) → va_S A s.heap H locs → lv_has ls 7 [(0, .ref (a 0)), (1, .int x1), (2, .int x2), (3, .int x3)] → f_Q_op_17 N σ x1 x2 x3 t0 = some (r, σ') → W p l e R s m args below meth c H locs 0 0 (MQ below (qb_QI D vCl (tyX ca) (wX g ca a σ' ++ tl) A r) args s 0 0 A) (F0 m 17 ls [.int t0]) := by
    intro σ x1 x2 x3 t0 H locs ls hP hD hS hl h
    unfold f_Q_op_17 at h
    refine lv_istore (lv' := [(4, .int t0), (0, .ref (a 0)), (1, .int x1), (2, .int x2), (3, .int x3)]) hx hb d_Q_op_17 hl (by decide) rfl (fun ls hl => ?_)
    refine lv_aload_n hx hb d_Q_op_19 rfl (lv_at hl 1 rfl) ?_
    refine Xg_0_1 hx hb hB hown (hB _ m_390) hK hP d_Q_op_20 ?_
    refine lv_iload_n hx hb d_Q_op_23 rfl (lv_at hl 3 rfl) ?_
    obtain ⟨r1, s2, hr1, h⟩ := bd_some h
    refine go_VI (rest := []) ⟨hx, hb, hml, hown, hB⟩ nwX_ok (c_E_has l D ca g a tl N σ s2 x2 r1 hr1) (cwx_V hB m_492 kw_E_has ⟨by rw [hR]; decide, by rw [hR]; decide⟩ rfl rfl) (va_recv hK hP (ci := 5) (q0 := 6) rfl rfl) hN hK hP hD hS hA rfl hl.1 rfl (Nat.le_of_ble_eq_true rfl) d_Q_op_24 ⟨by rw [hR]; exact Nat.le_of_ble_eq_true rfl, by rw [hR]; exact Nat.le_of_ble_eq_true rfl⟩ (fun H locs hP hD hS => ?_)
    refine lv_if_eq (tgt := 46) hx hb d_Q_op_27 (by decide) (fun hc => ?_) (fun hc => ?_)
    · replace h := it_t h hc
      refine lv_bipush (v := (-101 : Int32)) hx hb d_Q_op_46 (by decide) ?_
      exact rf_I (w := (fun z => wX g ca a z ++ tl)) h hx hb hr hlk hK hP hD hS d_Q_op_48
    · replace h := it_f h hc
      refine lv_iload hx hb d_Q_op_30 (lv_at hl 0 rfl) ?_
      have L49 : ∀ (σ : St) (x1 : Int32) (x2 : Int32) (x3 : Int32) (x4 : Int32) (H : Heap) (locs : List Loc) (ls : Array Slot), va_P D vCl (wX g ca a σ ++ tl) H → va_D A (wX g ca a σ ++ tl) → va_S A s.heap H locs → lv_has ls 7 [(0, .ref (a 0)), (1, .int x1), (2, .int x2), (3, .int x3), (4, .int x4)] → f_Q_op_49 N σ x1 x2 x3 x4 = some (r, σ') → W p l e R s m args below meth c H locs 0 0 (MQ below (qb_QI D vCl (tyX ca) (wX g ca a σ' ++ tl) A r) args s 0 0 A) (F0 m 49 ls []) := by
        intro σ x1 x2 x3 x4 H locs ls hP hD hS hl h
        unfold f_Q_op_49 at h
        refine lv_iload_n hx hb d_Q_op_49 rfl (lv_at hl 1 rfl) ?_
        refine lv_if_lt (tgt := 59) hx hb d_Q_op_50 (by decide) (fun hc => ?_) (fun hc => ?_)
        · replace h := it_t h hc
          refine lv_bipush (v := (-102 : Int32)) hx hb d_Q_op_59 (by decide) ?_
          exact rf_I (w := (fun z => wX g ca a z ++ tl)) h hx hb hr hlk hK hP hD hS d_Q_op_61
        · replace h := it_f h hc
          refine lv_iload_n hx hb d_Q_op_53 rfl (lv_at hl 1 rfl) ?_
          refine lv_bipush (v := (12 : Int32)) hx hb d_Q_op_54 (by decide) ?_
          refine lv_icmp_le (tgt := 62) hx hb d_Q_op_56 (by decide) (fun hc => ?_) (fun hc => ?_)
          · replace h := it_t h hc
            refine lv_iload_n hx hb d_Q_op_62 rfl (lv_at hl 1 rfl) ?_
            refine lv_bipush (v := (9 : Int32)) hx hb d_Q_op_63 (by decide) ?_
            have L85 : ∀ (σ : St) (x1 : Int32) (x2 : Int32) (x3 : Int32) (x4 : Int32) (t0 : Int32) (H : Heap) (locs : List Loc) (ls : Array Slot), va_P D vCl (wX g ca a σ ++ tl) H → va_D A (wX g ca a σ ++ tl) → va_S A s.heap H locs → lv_has ls 7 [(0, .ref (a 0)), (1, .int x1), (2, .int x2), (3, .int x3), (4, .int x4)] → f_Q_op_85 N σ x1 x2 x3 x4 t0 = some (r, σ') → W p l e R s m args below meth c H locs 0 0 (MQ below (qb_QI D vCl (tyX ca) (wX g ca a σ' ++ tl) A r) args s 0 0 A) (F0 m 85 ls [.int t0]) := by
              intro σ x1 x2 x3 x4 t0 H locs ls hP hD hS hl h
              unfold f_Q_op_85 at h
              refine lv_istore (lv' := [(5, .int t0), (0, .ref (a 0)), (1, .int x1), (2, .int x2), (3, .int x3), (4, .int x4)]) hx hb d_Q_op_85 hl (by decide) rfl (fun ls hl => ?_)
              refine lv_aload_n hx hb d_Q_op_87 rfl (lv_at hl 1 rfl) ?_
              refine Xg_0_1 hx hb hB hown (hB _ m_390) hK hP d_Q_op_88 ?_
              refine lv_iload_n hx hb d_Q_op_91 rfl (lv_at hl 3 rfl) ?_
              obtain ⟨r3, s4, hr3, h⟩ := bd_some h
              refine go_VI (rest := []) ⟨hx, hb, hml, hown, hB⟩ nwX_ok (c_E_isTruth l D ca g a tl N σ s4 x2 r3 hr3) (cwx_V hB m_493 kw_E_isTruth ⟨by rw [hR]; decide, by rw [hR]; decide⟩ rfl rfl) (va_recv hK hP (ci := 5) (q0 := 6) rfl rfl) hN hK hP hD hS hA rfl hl.1 rfl (Nat.le_of_ble_eq_true rfl) d_Q_op_92 ⟨by rw [hR]; exact Nat.le_of_ble_eq_true rfl, by rw [hR]; exact Nat.le_of_ble_eq_true rfl⟩ (fun H locs hP hD hS => ?_)
              refine lv_iload hx hb d_Q_op_95 (lv_at hl 0 rfl) ?_
              refine lv_icmp_ne (tgt := 118) hx hb d_Q_op_97 (by decide) (fun hc => ?_) (fun hc => ?_)
              · replace h := it_f h hc
                refine lv_bipush (v := (-103 : Int32)) hx hb d_Q_op_118 (by decide) ?_
                exact rf_I (w := (fun z => wX g ca a z ++ tl)) h hx hb hr hlk hK hP hD hS d_Q_op_120
              · replace h := it_t h hc
                refine lv_iload hx hb d_Q_op_100 (lv_at hl 5 rfl) ?_
                have L121 : ∀ (σ : St) (x1 : Int32) (x2 : Int32) (x3 : Int32) (x4 : Int32) (H : Heap) (locs : List Loc) (ls : Array Slot), va_P D vCl (wX g ca a σ ++ tl) H → va_D A (wX g ca a σ ++ tl) → va_S A s.heap H locs → lv_has ls 7 [(0, .ref (a 0)), (1, .int x1), (2, .int x2), (3, .int x3), (4, .int x4)] → f_Q_op_121 N σ x1 x2 x3 x4 = some (r, σ') → W p l e R s m args below meth c H locs 0 0 (MQ below (qb_QI D vCl (tyX ca) (wX g ca a σ' ++ tl) A r) args s 0 0 A) (F0 m 121 ls []) := by
                  intro σ x1 x2 x3 x4 H locs ls hP hD hS hl h
                  unfold f_Q_op_121 at h
                  refine lv_iload hx hb d_Q_op_121 (lv_at hl 4 rfl) ?_
                  have L131 : ∀ (σ : St) (x1 : Int32) (x2 : Int32) (t0 : Int32) (H : Heap) (locs : List Loc) (ls : Array Slot), va_P D vCl (wX g ca a σ ++ tl) H → va_D A (wX g ca a σ ++ tl) → va_S A s.heap H locs → lv_has ls 7 [(0, .ref (a 0)), (1, .int x1), (2, .int x2)] → f_Q_op_131 N σ x1 x2 t0 = some (r, σ') → W p l e R s m args below meth c H locs 0 0 (MQ below (qb_QI D vCl (tyX ca) (wX g ca a σ' ++ tl) A r) args s 0 0 A) (F0 m 131 ls [.int t0]) := by
                    intro σ x1 x2 t0 H locs ls hP hD hS hl h
                    unfold f_Q_op_131 at h
                    refine lv_istore (lv' := [(6, .int t0), (0, .ref (a 0)), (1, .int x1), (2, .int x2)]) hx hb d_Q_op_131 hl (by decide) rfl (fun ls hl => ?_)
                    refine lv_aload_n hx hb d_Q_op_133 rfl (lv_at hl 1 rfl) ?_
                    refine Xg_0_1 hx hb hB hown (hB _ m_390) hK hP d_Q_op_134 ?_
                    refine lv_iload_n hx hb d_Q_op_137 rfl (lv_at hl 3 rfl) ?_
                    refine lv_iload hx hb d_Q_op_138 (lv_at hl 0 rfl) ?_
                    obtain ⟨r5, s6, hr5, h⟩ := bd_some h
                    refine go_VI (rest := []) ⟨hx, hb, hml, hown, hB⟩ nwX_ok (c_E_hasRoom l D ca g a tl N σ s6 x2 t0 r5 hr5) (cwx_V hB m_456 kw_E_hasRoom ⟨by rw [hR]; decide, by rw [hR]; decide⟩ rfl rfl) (va_recv hK hP (ci := 5) (q0 := 6) rfl rfl) hN hK hP hD hS hA rfl hl.1 rfl (Nat.le_of_ble_eq_true rfl) d_Q_op_140 ⟨by rw [hR]; exact Nat.le_of_ble_eq_true rfl, by rw [hR]; exact Nat.le_of_ble_eq_true rfl⟩ (fun H locs hP hD hS => ?_)
                    refine lv_if_ne (tgt := 149) hx hb d_Q_op_143 (by decide) (fun hc => ?_) (fun hc => ?_)
                    · replace h := it_f h hc
                      refine lv_aload_n hx hb d_Q_op_149 rfl (lv_at hl 1 rfl) ?_
                      refine Xg_0_1 hx hb hB hown (hB _ m_390) hK hP d_Q_op_150 ?_
                      refine lv_iload_n hx hb d_Q_op_153 rfl (lv_at hl 2 rfl) ?_
                      refine lv_lconst (v := (0 : Int64)) hx hb d_Q_op_154 (by decide) ?_
                      refine lv_iload_n hx hb d_Q_op_155 rfl (lv_at hl 3 rfl) ?_
                      refine lv_iload hx hb d_Q_op_156 (lv_at hl 0 rfl) ?_
                      obtain ⟨r7, s8, hr7, h⟩ := bd_some h
                      refine go_VI (rest := []) ⟨hx, hb, hml, hown, hB⟩ nwX_ok (c_E_add l D ca g a tl N s6 s8 x1 (0 : Int64) x2 t0 r7 hr7) (cwx_V hB m_468 kw_E_add ⟨by rw [hR]; decide, by rw [hR]; decide⟩ rfl rfl) (va_recv hK hP (ci := 5) (q0 := 6) rfl rfl) hN hK hP hD hS hA rfl hl.1 rfl (Nat.le_of_ble_eq_true rfl) d_Q_op_158 ⟨by rw [hR]; exact Nat.le_of_ble_eq_true rfl, by rw [hR]; exact Nat.le_of_ble_eq_true rfl⟩ (fun H locs hP hD hS => ?_)
                      exact rf_I (w := (fun z => wX g ca a z ++ tl)) h hx hb hr hlk hK hP hD hS d_Q_op_161
                    · replace h := it_t h hc
                      refine lv_bipush (v := (-104 : Int32)) hx hb d_Q_op_146 (by decide) ?_
                      exact rf_I (w := (fun z => wX g ca a z ++ tl)) h hx hb hr hlk hK hP hD hS d_Q_op_148
                  refine lv_if_eq (tgt := 130) hx hb d_Q_op_123 (by decide) (fun hc => ?_) (fun hc => ?_)
                  · replace h := it_t h hc
                    refine lv_iload_n hx hb d_Q_op_130 rfl (lv_at hl 3 rfl) ?_
                    exact L131 σ x1 x2 x3 H locs ls hP hD hS (lv_sub hl [0, 1, 2] rfl) h
                  · replace h := it_f h hc
                    refine lv_iconst (v := (-1 : Int32)) hx hb d_Q_op_126 (by decide) ?_
                    refine lv_goto (tgt := 131) hx hb d_Q_op_127 (by decide) ?_
                    exact L131 σ x1 x2 (-1 : Int32) H locs ls hP hD hS (lv_sub hl [0, 1, 2] rfl) h
                refine lv_if_ne (tgt := 121) hx hb d_Q_op_102 (by decide) (fun hc => ?_) (fun hc => ?_)
                · replace h := it_f h hc
                  exact L121 s4 x1 x2 x3 x4 H locs ls hP hD hS (lv_sub hl [1, 2, 3, 4, 5] rfl) h
                · replace h := it_t h hc
                  refine lv_aload_n hx hb d_Q_op_105 rfl (lv_at hl 1 rfl) ?_
                  refine Xg_0_1 hx hb hB hown (hB _ m_390) hK hP d_Q_op_106 ?_
                  refine lv_iload_n hx hb d_Q_op_109 rfl (lv_at hl 4 rfl) ?_
                  obtain ⟨r9, s10, hr9, h⟩ := bd_some h
                  refine go_VI (rest := []) ⟨hx, hb, hml, hown, hB⟩ nwX_ok (c_E_isTruth l D ca g a tl N s4 s10 x3 r9 hr9) (cwx_V hB m_493 kw_E_isTruth ⟨by rw [hR]; decide, by rw [hR]; decide⟩ rfl rfl) (va_recv hK hP (ci := 5) (q0 := 6) rfl rfl) hN hK hP hD hS hA rfl hl.1 rfl (Nat.le_of_ble_eq_true rfl) d_Q_op_110 ⟨by rw [hR]; exact Nat.le_of_ble_eq_true rfl, by rw [hR]; exact Nat.le_of_ble_eq_true rfl⟩ (fun H locs hP hD hS => ?_)
                  refine lv_iload hx hb d_Q_op_113 (lv_at hl 0 rfl) ?_
                  refine lv_icmp_eq (tgt := 121) hx hb d_Q_op_115 (by decide) (fun hc => ?_) (fun hc => ?_)
                  · replace h := it_t h hc
                    exact L121 s10 x1 x2 x3 x4 H locs ls hP hD hS (lv_sub hl [1, 2, 3, 4, 5] rfl) h
                  · replace h := it_f h hc
                    refine lv_bipush (v := (-103 : Int32)) hx hb d_Q_op_118 (by decide) ?_
                    exact rf_I (w := (fun z => wX g ca a z ++ tl)) h hx hb hr hlk hK hP hD hS d_Q_op_120
            have L80 : ∀ (σ : St) (x1 : Int32) (x2 : Int32) (x3 : Int32) (x4 : Int32) (H : Heap) (locs : List Loc) (ls : Array Slot), va_P D vCl (wX g ca a σ ++ tl) H → va_D A (wX g ca a σ ++ tl) → va_S A s.heap H locs → lv_has ls 7 [(0, .ref (a 0)), (1, .int x1), (2, .int x2), (3, .int x3), (4, .int x4)] → f_Q_op_80 N σ x1 x2 x3 x4 = some (r, σ') → W p l e R s m args below meth c H locs 0 0 (MQ below (qb_QI D vCl (tyX ca) (wX g ca a σ' ++ tl) A r) args s 0 0 A) (F0 m 80 ls []) := by
              intro σ x1 x2 x3 x4 H locs ls hP hD hS hl h
              unfold f_Q_op_80 at h
              refine lv_iconst (v := (1 : Int32)) hx hb d_Q_op_80 (by decide) ?_
              refine lv_goto (tgt := 85) hx hb d_Q_op_81 (by decide) ?_
              exact L85 σ x1 x2 x3 x4 (1 : Int32) H locs ls hP hD hS (lv_sub hl [0, 1, 2, 3, 4] rfl) h
            refine lv_icmp_eq (tgt := 80) hx hb d_Q_op_65 (by decide) (fun hc => ?_) (fun hc => ?_)
            · replace h := it_t h hc
              exact L80 σ x1 x2 x3 x4 H locs ls hP hD hS (lv_sub hl [0, 1, 2, 3, 4] rfl) h
            · replace h := it_f h hc
              refine lv_iload_n hx hb d_Q_op_68 rfl (lv_at hl 1 rfl) ?_
              refine lv_bipush (v := (10 : Int32)) hx hb d_Q_op_69 (by decide) ?_
              refine lv_icmp_eq (tgt := 80) hx hb d_Q_op_71 (by decide) (fun hc => ?_) (fun hc => ?_)
              · replace h := it_t h hc
                exact L80 σ x1 x2 x3 x4 H locs ls hP hD hS (lv_sub hl [0, 1, 2, 3, 4] rfl) h
              · replace h := it_f h hc
                refine lv_iload_n hx hb d_Q_op_74 rfl (lv_at hl 1 rfl) ?_
                refine lv_bipush (v := (11 : Int32)) hx hb d_Q_op_75 (by decide) ?_
                refine lv_icmp_ne (tgt := 84) hx hb d_Q_op_77 (by decide) (fun hc => ?_) (fun hc => ?_)
                · replace h := it_f h hc
                  refine lv_iconst (v := (0 : Int32)) hx hb d_Q_op_84 (by decide) ?_
                  exact L85 σ x1 x2 x3 x4 (0 : Int32) H locs ls hP hD hS (lv_sub hl [0, 1, 2, 3, 4] rfl) h
                · replace h := it_t h hc
                  exact L80 σ x1 x2 x3 x4 H locs ls hP hD hS (lv_sub hl [0, 1, 2, 3, 4] rfl) h
          · replace h := it_f h hc
            refine lv_bipush (v := (-102 : Int32)) hx hb d_Q_op_59 (by decide) ?_
            exact rf_I (w := (fun z => wX g ca a z ++ tl)) h hx hb hr hlk hK hP hD hS d_Q_op_61
      refine lv_if_ne (tgt := 49) hx hb d_Q_op_32 (by decide) (fun hc => ?_) (fun hc => ?_)
      · replace h := it_f h hc
        exact L49 s2 x1 x2 x3 t0 H locs ls hP hD hS (lv_sub hl [1, 2, 3, 4, 0] rfl) h
      · replace h := it_t h hc
        refine lv_aload_n hx hb d_Q_op_35 rfl (lv_at hl 1 rfl) ?_
        refine Xg_0_1 hx hb hB hown (hB _ m_390) hK hP d_Q_op_36 ?_
        refine lv_iload_n hx hb d_Q_op_39 rfl (lv_at hl 4 rfl) ?_
        obtain ⟨r11, s12, hr11, h⟩ := bd_some h
        refine go_VI (rest := []) ⟨hx, hb, hml, hown, hB⟩ nwX_ok (c_E_has l D ca g a tl N s2 s12 x3 r11 hr11) (cwx_V hB m_492 kw_E_has ⟨by rw [hR]; decide, by rw [hR]; decide⟩ rfl rfl) (va_recv hK hP (ci := 5) (q0 := 6) rfl rfl) hN hK hP hD hS hA rfl hl.1 rfl (Nat.le_of_ble_eq_true rfl) d_Q_op_40 ⟨by rw [hR]; exact Nat.le_of_ble_eq_true rfl, by rw [hR]; exact Nat.le_of_ble_eq_true rfl⟩ (fun H locs hP hD hS => ?_)
        refine lv_if_ne (tgt := 49) hx hb d_Q_op_43 (by decide) (fun hc => ?_) (fun hc => ?_)
        · replace h := it_f h hc
          exact L49 s12 x1 x2 x3 t0 H locs ls hP hD hS (lv_sub hl [1, 2, 3, 4, 0] rfl) h
        · replace h := it_t h hc
          refine lv_bipush (v := (-101 : Int32)) hx hb d_Q_op_46 (by decide) ?_
          exact rf_I (w := (fun z => wX g ca a z ++ tl)) h hx hb hr hlk hK hP hD hS d_Q_op_48
  have L12 : ∀ (σ : St) (x1 : Int32) (x2 : Int32) (x3 : Int32) (H : Heap) (locs : List Loc) (ls : Array Slot), va_P D vCl (wX g ca a σ ++ tl) H → va_D A (wX g ca a σ ++ tl) → va_S A s.heap H locs → lv_has ls 7 [(0, .ref (a 0)), (1, .int x1), (2, .int x2), (3, .int x3)] → f_Q_op_12 N σ x1 x2 x3 = some (r, σ') → W p l e R s m args below meth c H locs 0 0 (MQ below (qb_QI D vCl (tyX ca) (wX g ca a σ' ++ tl) A r) args s 0 0 A) (F0 m 12 ls []) := by
    intro σ x1 x2 x3 H locs ls hP hD hS hl h
    unfold f_Q_op_12 at h
    refine lv_iconst (v := (1 : Int32)) hx hb d_Q_op_12 (by decide) ?_
    refine lv_goto (tgt := 17) hx hb d_Q_op_13 (by decide) ?_
    exact L17 σ x1 x2 x3 (1 : Int32) H locs ls hP hD hS (lv_sub hl [0, 1, 2, 3] rfl) h
  refine lv_icmp_eq (tgt := 12) hx hb d_Q_op_3 (by decide) (fun hc => ?_) (fun hc => ?_)
  · replace h := it_t h hc
    exact L12 σ x1 x2 x3 H locs ls hP hD hS (lv_sub hl [0, 1, 2, 3] rfl) h
  · replace h := it_f h hc
    refine lv_iload_n hx hb d_Q_op_6 rfl (lv_at hl 1 rfl) ?_
    refine lv_bipush (v := (12 : Int32)) hx hb d_Q_op_7 (by decide) ?_
    refine lv_icmp_ne (tgt := 16) hx hb d_Q_op_9 (by decide) (fun hc => ?_) (fun hc => ?_)
    · replace h := it_f h hc
      refine lv_iconst (v := (0 : Int32)) hx hb d_Q_op_16 (by decide) ?_
      exact L17 σ x1 x2 x3 (0 : Int32) H locs ls hP hD hS (lv_sub hl [0, 1, 2, 3] rfl) h
    · replace h := it_t h hc
      exact L12 σ x1 x2 x3 H locs ls hP hD hS (lv_sub hl [0, 1, 2, 3] rfl) h
set_option maxRecDepth 100000 in
set_option maxHeartbeats 4000000 in
theorem c_E_addAggregate (l : Launch) (D : va_G) (ca : Nat → ClassId) (g : Bool) (a : Nat → Nat) (tl : va_W) (N : Nat) (σ σ' : St) (x1 : Int32) (x2 : Int32) (x3 : Int32) (r : Int32) (h : f_E_addAggregate N σ x1 x2 x3 = some (r, σ')) : CtI l y_E_addAggregate ws_E_addAggregate rm_E_addAggregate 0 0 D vCl (tyX ca) nwX [.ref (a 6), .int x1, .int x2, .int x3] (wX g ca a σ ++ tl) (wX g ca a σ' ++ tl) r := by
  refine en_I (ws' := BIG) (by decide +kernel) rfl (Nat.le_of_ble_eq_true rfl) ?_
  intro p e s m below meth c A ls R args H locs hR hx hb hr hlk hml hown hB hK hN hP hD hA hS hl
  have hl : lv_has ls 5 [(0, .ref (a 6)), (1, .int x1), (2, .int x2), (3, .int x3)] := hl
  unfold f_E_addAggregate at h
  refine lv_aload_n hx hb d_E_addAggregate_0 rfl (lv_at hl 0 rfl) ?_
  refine Xg_6_1 hx hb hB hown (hB _ m_134) hK hP d_E_addAggregate_1 ?_
  refine lv_istore (lv' := [(4, .int (gi σ 2)), (0, .ref (a 6)), (1, .int x1), (2, .int x2), (3, .int x3)]) hx hb d_E_addAggregate_4 hl (by decide) rfl (fun ls hl => ?_)
  refine lv_aload_n hx hb d_E_addAggregate_6 rfl (lv_at hl 1 rfl) ?_
  refine Xg_6_10 hx hb hB hown (hB _ m_155) hK hP d_E_addAggregate_7 ?_
  refine lv_iload hx hb d_E_addAggregate_10 (lv_at hl 0 rfl) ?_
  refine lv_iload_n hx hb d_E_addAggregate_12 rfl (lv_at hl 2 rfl) ?_
  obtain ⟨hi, h⟩ := ckb_some h
  obtain ⟨s1, es1, h⟩ := nm_some h
  refine Xs_15 es1 hx hb hK hP hD hS hi d_E_addAggregate_13 (fun H locs hP hD hS => ?_)
  refine lv_aload_n hx hb d_E_addAggregate_14 rfl (lv_at hl 1 rfl) ?_
  refine Xg_6_11 hx hb hB hown (hB _ m_158) hK hP d_E_addAggregate_15 ?_
  refine lv_iload hx hb d_E_addAggregate_18 (lv_at hl 0 rfl) ?_
  refine lv_iload_n hx hb d_E_addAggregate_20 rfl (lv_at hl 3 rfl) ?_
  obtain ⟨hi, h⟩ := ckb_some h
  obtain ⟨s2, es2, h⟩ := nm_some h
  refine Xs_16 es2 hx hb hK hP hD hS hi d_E_addAggregate_21 (fun H locs hP hD hS => ?_)
  refine lv_aload_n hx hb d_E_addAggregate_22 rfl (lv_at hl 1 rfl) ?_
  refine Xg_6_12 hx hb hB hown (hB _ m_160) hK hP d_E_addAggregate_23 ?_
  refine lv_iload hx hb d_E_addAggregate_26 (lv_at hl 0 rfl) ?_
  refine lv_iload_n hx hb d_E_addAggregate_28 rfl (lv_at hl 4 rfl) ?_
  have L41 : ∀ (σ : St) (x2 : Int32) (x4 : Int32) (t0 : Int32) (t1 : Int32) (H : Heap) (locs : List Loc) (ls : Array Slot), va_P D vCl (wX g ca a σ ++ tl) H → va_D A (wX g ca a σ ++ tl) → va_S A s.heap H locs → lv_has ls 5 [(0, .ref (a 6)), (2, .int x2), (4, .int x4)] → f_E_addAggregate_41 N σ x2 x4 t0 t1 = some (r, σ') → W p l e R s m args below meth c H locs 0 0 (MQ below (qb_QI D vCl (tyX ca) (wX g ca a σ' ++ tl) A r) args s 0 0 A) (F0 m 41 ls [.int t0, .int t1, .ref (a 17)]) := by
    intro σ x2 x4 t0 t1 H locs ls hP hD hS hl h
    unfold f_E_addAggregate_41 at h
    obtain ⟨hi, h⟩ := ckb_some h
    obtain ⟨s3, es3, h⟩ := nm_some h
    refine Xs_17 es3 hx hb hK hP hD hS hi d_E_addAggregate_41 (fun H locs hP hD hS => ?_)
    refine lv_aload_n hx hb d_E_addAggregate_42 rfl (lv_at hl 0 rfl) ?_
    refine lv_dup hx hb d_E_addAggregate_43 rfl ?_
    refine Xg_6_1 hx hb hB hown (hB _ m_134) hK hP d_E_addAggregate_44 ?_
    refine lv_iconst (v := (1 : Int32)) hx hb d_E_addAggregate_47 (by decide) ?_
    refine lv_iadd hx hb d_E_addAggregate_48 ?_
    obtain ⟨s4, es4, h⟩ := nm_some h
    refine Xp_6_1 es4 hx hb hB hown (hB _ m_134) hK hP hD hS d_E_addAggregate_49 (fun H locs hP hD hS => ?_)
    refine lv_aload_n hx hb d_E_addAggregate_52 rfl (lv_at hl 0 rfl) ?_
    refine lv_bipush (v := (16 : Int32)) hx hb d_E_addAggregate_53 (by decide) ?_
    refine lv_iload hx hb d_E_addAggregate_55 (lv_at hl 2 rfl) ?_
    refine lv_i2l hx hb d_E_addAggregate_57 rfl ?_
    refine lv_iload_n hx hb d_E_addAggregate_58 rfl (lv_at hl 1 rfl) ?_
    refine lv_iconst (v := (-1 : Int32)) hx hb d_E_addAggregate_59 (by decide) ?_
    obtain ⟨r5, s6, hr5, h⟩ := bd_some h
    refine go_VI (rest := []) ⟨hx, hb, hml, hown, hB⟩ nwX_ok (c_E_add l D ca g a tl N s4 s6 (16 : Int32) (x4).toInt64 x2 (-1 : Int32) r5 hr5) (cwx_V hB m_505 kw_E_add ⟨by rw [hR]; decide, by rw [hR]; decide⟩ rfl rfl) (va_recv hK hP (ci := 5) (q0 := 6) rfl rfl) hN hK hP hD hS hA rfl hl.1 rfl (Nat.le_of_ble_eq_true rfl) d_E_addAggregate_60 ⟨by rw [hR]; exact Nat.le_of_ble_eq_true rfl, by rw [hR]; exact Nat.le_of_ble_eq_true rfl⟩ (fun H locs hP hD hS => ?_)
    exact rf_I (w := (fun z => wX g ca a z ++ tl)) h hx hb hr hlk hK hP hD hS d_E_addAggregate_63
  have L40 : ∀ (σ : St) (x2 : Int32) (x4 : Int32) (t0 : Int32) (H : Heap) (locs : List Loc) (ls : Array Slot), va_P D vCl (wX g ca a σ ++ tl) H → va_D A (wX g ca a σ ++ tl) → va_S A s.heap H locs → lv_has ls 5 [(0, .ref (a 6)), (2, .int x2), (4, .int x4)] → f_E_addAggregate_40 N σ x2 x4 t0 = some (r, σ') → W p l e R s m args below meth c H locs 0 0 (MQ below (qb_QI D vCl (tyX ca) (wX g ca a σ' ++ tl) A r) args s 0 0 A) (F0 m 40 ls [.int t0, .ref (a 17)]) := by
    intro σ x2 x4 t0 H locs ls hP hD hS hl h
    unfold f_E_addAggregate_40 at h
    refine lv_iconst (v := (0 : Int32)) hx hb d_E_addAggregate_40 (by decide) ?_
    exact L41 σ x2 x4 (0 : Int32) t0 H locs ls hP hD hS (lv_sub hl [0, 1, 2] rfl) h
  refine lv_if_eq (tgt := 40) hx hb d_E_addAggregate_29 (by decide) (fun hc => ?_) (fun hc => ?_)
  · replace h := it_t h hc
    exact L40 s2 x2 (gi σ 2) (gi σ 2) H locs ls hP hD hS (lv_sub hl [1, 3, 0] rfl) h
  · replace h := it_f h hc
    refine lv_iload_n hx hb d_E_addAggregate_32 rfl (lv_at hl 2 rfl) ?_
    refine lv_if_eq (tgt := 40) hx hb d_E_addAggregate_33 (by decide) (fun hc => ?_) (fun hc => ?_)
    · replace h := it_t h hc
      exact L40 s2 x2 (gi σ 2) (gi σ 2) H locs ls hP hD hS (lv_sub hl [1, 3, 0] rfl) h
    · replace h := it_f h hc
      refine lv_iconst (v := (1 : Int32)) hx hb d_E_addAggregate_36 (by decide) ?_
      refine lv_goto (tgt := 41) hx hb d_E_addAggregate_37 (by decide) ?_
      exact L41 s2 x2 (gi σ 2) (1 : Int32) (gi σ 2) H locs ls hP hD hS (lv_sub hl [1, 3, 0] rfl) h
set_option maxRecDepth 100000 in
set_option maxHeartbeats 4000000 in
theorem c_Q_aggregate (l : Launch) (D : va_G) (ca : Nat → ClassId) (g : Bool) (a : Nat → Nat) (tl : va_W) (N : Nat) (σ σ' : St) (x1 : Int32) (x2 : Int32) (x3 : Int32) (r : Int32) (h : f_Q_aggregate N σ x1 x2 x3 = some (r, σ')) : CtI l y_Q_aggregate ws_Q_aggregate rm_Q_aggregate 0 0 D vCl (tyX ca) nwX [.ref (a 0), .int x1, .int x2, .int x3] (wX g ca a σ ++ tl) (wX g ca a σ' ++ tl) r := by
  refine en_I (ws' := BIG) (by decide +kernel) rfl (Nat.le_of_ble_eq_true rfl) ?_
  intro p e s m below meth c A ls R args H locs hR hx hb hr hlk hml hown hB hK hN hP hD hA hS hl
  have hl : lv_has ls 4 [(0, .ref (a 0)), (1, .int x1), (2, .int x2), (3, .int x3)] := hl
  unfold f_Q_aggregate at h
  refine lv_aload_n hx hb d_Q_aggregate_0 rfl (lv_at hl 0 rfl) ?_
  refine Xg_0_1 hx hb hB hown (hB _ m_390) hK hP d_Q_aggregate_1 ?_
  refine lv_iload_n hx hb d_Q_aggregate_4 rfl (lv_at hl 2 rfl) ?_
  obtain ⟨r1, s2, hr1, h⟩ := bd_some h
  refine go_VI (rest := []) ⟨hx, hb, hml, hown, hB⟩ nwX_ok (c_E_has l D ca g a tl N σ s2 x2 r1 hr1) (cwx_V hB m_492 kw_E_has ⟨by rw [hR]; decide, by rw [hR]; decide⟩ rfl rfl) (va_recv hK hP (ci := 5) (q0 := 6) rfl rfl) hN hK hP hD hS hA rfl hl.1 rfl (Nat.le_of_ble_eq_true rfl) d_Q_aggregate_5 ⟨by rw [hR]; exact Nat.le_of_ble_eq_true rfl, by rw [hR]; exact Nat.le_of_ble_eq_true rfl⟩ (fun H locs hP hD hS => ?_)
  refine lv_if_ne (tgt := 14) hx hb d_Q_aggregate_8 (by decide) (fun hc => ?_) (fun hc => ?_)
  · replace h := it_f h hc
    refine lv_iload_n hx hb d_Q_aggregate_14 rfl (lv_at hl 1 rfl) ?_
    refine lv_if_lt (tgt := 23) hx hb d_Q_aggregate_15 (by decide) (fun hc => ?_) (fun hc => ?_)
    · replace h := it_t h hc
      refine lv_bipush (v := (-102 : Int32)) hx hb d_Q_aggregate_23 (by decide) ?_
      exact rf_I (w := (fun z => wX g ca a z ++ tl)) h hx hb hr hlk hK hP hD hS d_Q_aggregate_25
    · replace h := it_f h hc
      refine lv_iload_n hx hb d_Q_aggregate_18 rfl (lv_at hl 1 rfl) ?_
      refine lv_iconst (v := (5 : Int32)) hx hb d_Q_aggregate_19 (by decide) ?_
      refine lv_icmp_le (tgt := 26) hx hb d_Q_aggregate_20 (by decide) (fun hc => ?_) (fun hc => ?_)
      · replace h := it_t h hc
        refine lv_aload_n hx hb d_Q_aggregate_26 rfl (lv_at hl 0 rfl) ?_
        refine Xg_0_1 hx hb hB hown (hB _ m_390) hK hP d_Q_aggregate_27 ?_
        refine lv_iload_n hx hb d_Q_aggregate_30 rfl (lv_at hl 2 rfl) ?_
        obtain ⟨r3, s4, hr3, h⟩ := bd_some h
        refine go_VI (rest := []) ⟨hx, hb, hml, hown, hB⟩ nwX_ok (c_E_isTruth l D ca g a tl N s2 s4 x2 r3 hr3) (cwx_V hB m_493 kw_E_isTruth ⟨by rw [hR]; decide, by rw [hR]; decide⟩ rfl rfl) (va_recv hK hP (ci := 5) (q0 := 6) rfl rfl) hN hK hP hD hS hA rfl hl.1 rfl (Nat.le_of_ble_eq_true rfl) d_Q_aggregate_31 ⟨by rw [hR]; exact Nat.le_of_ble_eq_true rfl, by rw [hR]; exact Nat.le_of_ble_eq_true rfl⟩ (fun H locs hP hD hS => ?_)
        refine lv_if_ne (tgt := 49) hx hb d_Q_aggregate_34 (by decide) (fun hc => ?_) (fun hc => ?_)
        · replace h := it_f h hc
          refine lv_bipush (v := (-103 : Int32)) hx hb d_Q_aggregate_49 (by decide) ?_
          exact rf_I (w := (fun z => wX g ca a z ++ tl)) h hx hb hr hlk hK hP hD hS d_Q_aggregate_51
        · replace h := it_t h hc
          refine lv_aload_n hx hb d_Q_aggregate_37 rfl (lv_at hl 0 rfl) ?_
          refine Xg_0_1 hx hb hB hown (hB _ m_390) hK hP d_Q_aggregate_38 ?_
          refine Xg_6_9 hx hb hB hown (hB _ m_154) hK hP d_Q_aggregate_41 ?_
          refine lv_iload_n hx hb d_Q_aggregate_44 rfl (lv_at hl 2 rfl) ?_
          obtain ⟨hi, h⟩ := ckb_some h
          refine Xa_14 hx hb hK hP hi d_Q_aggregate_45 ?_
          refine lv_if_eq (tgt := 52) hx hb d_Q_aggregate_46 (by decide) (fun hc => ?_) (fun hc => ?_)
          · replace h := it_t h hc
            refine lv_aload_n hx hb d_Q_aggregate_52 rfl (lv_at hl 0 rfl) ?_
            refine Xg_0_1 hx hb hB hown (hB _ m_390) hK hP d_Q_aggregate_53 ?_
            refine Xg_6_1 hx hb hB hown (hB _ m_136) hK hP d_Q_aggregate_56 ?_
            refine lv_bipush (v := (8 : Int32)) hx hb d_Q_aggregate_59 (by decide) ?_
            refine lv_icmp_ge (tgt := 76) hx hb d_Q_aggregate_61 (by decide) (fun hc => ?_) (fun hc => ?_)
            · replace h := it_t h hc
              refine lv_bipush (v := (-104 : Int32)) hx hb d_Q_aggregate_76 (by decide) ?_
              exact rf_I (w := (fun z => wX g ca a z ++ tl)) h hx hb hr hlk hK hP hD hS d_Q_aggregate_78
            · replace h := it_f h hc
              refine lv_aload_n hx hb d_Q_aggregate_64 rfl (lv_at hl 0 rfl) ?_
              refine Xg_0_1 hx hb hB hown (hB _ m_390) hK hP d_Q_aggregate_65 ?_
              refine lv_iload_n hx hb d_Q_aggregate_68 rfl (lv_at hl 2 rfl) ?_
              refine lv_iconst (v := (-1 : Int32)) hx hb d_Q_aggregate_69 (by decide) ?_
              obtain ⟨r5, s6, hr5, h⟩ := bd_some h
              refine go_VI (rest := []) ⟨hx, hb, hml, hown, hB⟩ nwX_ok (c_E_hasRoom l D ca g a tl N s4 s6 x2 (-1 : Int32) r5 hr5) (cwx_V hB m_456 kw_E_hasRoom ⟨by rw [hR]; decide, by rw [hR]; decide⟩ rfl rfl) (va_recv hK hP (ci := 5) (q0 := 6) rfl rfl) hN hK hP hD hS hA rfl hl.1 rfl (Nat.le_of_ble_eq_true rfl) d_Q_aggregate_70 ⟨by rw [hR]; exact Nat.le_of_ble_eq_true rfl, by rw [hR]; exact Nat.le_of_ble_eq_true rfl⟩ (fun H locs hP hD hS => ?_)
              refine lv_if_ne (tgt := 79) hx hb d_Q_aggregate_73 (by decide) (fun hc => ?_) (fun hc => ?_)
              · replace h := it_f h hc
                refine lv_aload_n hx hb d_Q_aggregate_79 rfl (lv_at hl 0 rfl) ?_
                refine Xg_0_1 hx hb hB hown (hB _ m_390) hK hP d_Q_aggregate_80 ?_
                refine lv_iload_n hx hb d_Q_aggregate_83 rfl (lv_at hl 1 rfl) ?_
                refine lv_iload_n hx hb d_Q_aggregate_84 rfl (lv_at hl 2 rfl) ?_
                refine lv_iload_n hx hb d_Q_aggregate_85 rfl (lv_at hl 3 rfl) ?_
                obtain ⟨r7, s8, hr7, h⟩ := bd_some h
                refine go_VI (rest := []) ⟨hx, hb, hml, hown, hB⟩ nwX_ok (c_E_addAggregate l D ca g a tl N s6 s8 x1 x2 x3 r7 hr7) (cwx_V hB m_501 kw_E_addAggregate ⟨by rw [hR]; decide, by rw [hR]; decide⟩ rfl rfl) (va_recv hK hP (ci := 5) (q0 := 6) rfl rfl) hN hK hP hD hS hA rfl hl.1 rfl (Nat.le_of_ble_eq_true rfl) d_Q_aggregate_86 ⟨by rw [hR]; exact Nat.le_of_ble_eq_true rfl, by rw [hR]; exact Nat.le_of_ble_eq_true rfl⟩ (fun H locs hP hD hS => ?_)
                exact rf_I (w := (fun z => wX g ca a z ++ tl)) h hx hb hr hlk hK hP hD hS d_Q_aggregate_89
              · replace h := it_t h hc
                refine lv_bipush (v := (-104 : Int32)) hx hb d_Q_aggregate_76 (by decide) ?_
                exact rf_I (w := (fun z => wX g ca a z ++ tl)) h hx hb hr hlk hK hP hD hS d_Q_aggregate_78
          · replace h := it_f h hc
            refine lv_bipush (v := (-103 : Int32)) hx hb d_Q_aggregate_49 (by decide) ?_
            exact rf_I (w := (fun z => wX g ca a z ++ tl)) h hx hb hr hlk hK hP hD hS d_Q_aggregate_51
      · replace h := it_f h hc
        refine lv_bipush (v := (-102 : Int32)) hx hb d_Q_aggregate_23 (by decide) ?_
        exact rf_I (w := (fun z => wX g ca a z ++ tl)) h hx hb hr hlk hK hP hD hS d_Q_aggregate_25
  · replace h := it_t h hc
    refine lv_bipush (v := (-101 : Int32)) hx hb d_Q_aggregate_11 (by decide) ?_
    exact rf_I (w := (fun z => wX g ca a z ++ tl)) h hx hb hr hlk hK hP hD hS d_Q_aggregate_13
set_option maxRecDepth 100000 in
set_option maxHeartbeats 4000000 in
theorem c_Y_addSource (l : Launch) (D : va_G) (ca : Nat → ClassId) (g : Bool) (a : Nat → Nat) (tl : va_W) (N : Nat) (σ σ' : St) (x1 : Int32) (x2 : Int32) (x3 : Int32) (r : Int32) (h : f_Y_addSource N σ x1 x2 x3 = some (r, σ')) : CtI l y_Y_addSource ws_Y_addSource rm_Y_addSource 0 0 D vCl (tyX ca) nwX [.ref (a 18), .int x1, .int x2, .int x3] (wX g ca a σ ++ tl) (wX g ca a σ' ++ tl) r := by
  refine en_I (ws' := BIG) (by decide +kernel) rfl (Nat.le_of_ble_eq_true rfl) ?_
  intro p e s m below meth c A ls R args H locs hR hx hb hr hlk hml hown hB hK hN hP hD hA hS hl
  have hl : lv_has ls 4 [(0, .ref (a 18)), (1, .int x1), (2, .int x2), (3, .int x3)] := hl
  unfold f_Y_addSource at h
  refine lv_aload_n hx hb d_Y_addSource_0 rfl (lv_at hl 0 rfl) ?_
  refine Xg_18_1 hx hb hB hown (hB _ m_200) hK hP d_Y_addSource_1 ?_
  refine lv_aload_n hx hb d_Y_addSource_4 rfl (lv_at hl 0 rfl) ?_
  refine Xg_18_0 hx hb hB hown (hB _ m_196) hK hP d_Y_addSource_5 ?_
  refine lv_iload_n hx hb d_Y_addSource_8 rfl (lv_at hl 1 rfl) ?_
  obtain ⟨hi, h⟩ := ckb_some h
  obtain ⟨s1, es1, h⟩ := nm_some h
  refine Xs_19 es1 hx hb hK hP hD hS hi d_Y_addSource_9 (fun H locs hP hD hS => ?_)
  refine lv_aload_n hx hb d_Y_addSource_10 rfl (lv_at hl 0 rfl) ?_
  refine Xg_18_2 hx hb hB hown (hB _ m_204) hK hP d_Y_addSource_11 ?_
  refine lv_aload_n hx hb d_Y_addSource_14 rfl (lv_at hl 0 rfl) ?_
  refine Xg_18_0 hx hb hB hown (hB _ m_196) hK hP d_Y_addSource_15 ?_
  refine lv_iload_n hx hb d_Y_addSource_18 rfl (lv_at hl 2 rfl) ?_
  obtain ⟨hi, h⟩ := ckb_some h
  obtain ⟨s2, es2, h⟩ := nm_some h
  refine Xs_20 es2 hx hb hK hP hD hS hi d_Y_addSource_19 (fun H locs hP hD hS => ?_)
  refine lv_aload_n hx hb d_Y_addSource_20 rfl (lv_at hl 0 rfl) ?_
  refine Xg_18_3 hx hb hB hown (hB _ m_206) hK hP d_Y_addSource_21 ?_
  refine lv_aload_n hx hb d_Y_addSource_24 rfl (lv_at hl 0 rfl) ?_
  refine Xg_18_0 hx hb hB hown (hB _ m_196) hK hP d_Y_addSource_25 ?_
  refine lv_iload_n hx hb d_Y_addSource_28 rfl (lv_at hl 3 rfl) ?_
  obtain ⟨hi, h⟩ := ckb_some h
  obtain ⟨s3, es3, h⟩ := nm_some h
  refine Xs_21 es3 hx hb hK hP hD hS hi d_Y_addSource_29 (fun H locs hP hD hS => ?_)
  refine lv_aload_n hx hb d_Y_addSource_30 rfl (lv_at hl 0 rfl) ?_
  refine lv_dup hx hb d_Y_addSource_31 rfl ?_
  refine Xg_18_0 hx hb hB hown (hB _ m_196) hK hP d_Y_addSource_32 ?_
  refine lv_iconst (v := (1 : Int32)) hx hb d_Y_addSource_35 (by decide) ?_
  refine lv_iadd hx hb d_Y_addSource_36 ?_
  obtain ⟨s4, es4, h⟩ := nm_some h
  refine Xp_18_0 es4 hx hb hB hown (hB _ m_196) hK hP hD hS d_Y_addSource_37 (fun H locs hP hD hS => ?_)
  refine lv_aload_n hx hb d_Y_addSource_40 rfl (lv_at hl 0 rfl) ?_
  refine Xg_18_0 hx hb hB hown (hB _ m_196) hK hP d_Y_addSource_41 ?_
  exact rf_I (w := (fun z => wX g ca a z ++ tl)) h hx hb hr hlk hK hP hD hS d_Y_addSource_44
set_option maxRecDepth 100000 in
set_option maxHeartbeats 4000000 in
theorem c_Q_source (l : Launch) (D : va_G) (ca : Nat → ClassId) (g : Bool) (a : Nat → Nat) (tl : va_W) (N : Nat) (σ σ' : St) (x1 : Int32) (x2 : Int32) (x3 : Int32) (r : Int32) (h : f_Q_source N σ x1 x2 x3 = some (r, σ')) : CtI l y_Q_source ws_Q_source rm_Q_source 0 0 D vCl (tyX ca) nwX [.ref (a 0), .int x1, .int x2, .int x3] (wX g ca a σ ++ tl) (wX g ca a σ' ++ tl) r := by
  refine en_I (ws' := BIG) (by decide +kernel) rfl (Nat.le_of_ble_eq_true rfl) ?_
  intro p e s m below meth c A ls R args H locs hR hx hb hr hlk hml hown hB hK hN hP hD hA hS hl
  have hl : lv_has ls 4 [(0, .ref (a 0)), (1, .int x1), (2, .int x2), (3, .int x3)] := hl
  unfold f_Q_source at h
  refine lv_aload_n hx hb d_Q_source_0 rfl (lv_at hl 0 rfl) ?_
  refine Xg_0_0 hx hb hB hown (hB _ m_389) hK hP d_Q_source_1 ?_
  refine lv_iload_n hx hb d_Q_source_4 rfl (lv_at hl 1 rfl) ?_
  obtain ⟨r1, s2, hr1, h⟩ := bd_some h
  refine go_VI (rest := []) ⟨hx, hb, hml, hown, hB⟩ nwX_ok (c_T_has l D ca g a tl N σ s2 x1 r1 hr1) (cwx_V hB m_417 kw_T_has ⟨by rw [hR]; decide, by rw [hR]; decide⟩ rfl rfl) (va_recv hK hP (ci := 9) (q0 := 1) rfl rfl) hN hK hP hD hS hA rfl hl.1 rfl (Nat.le_of_ble_eq_true rfl) d_Q_source_5 ⟨by rw [hR]; exact Nat.le_of_ble_eq_true rfl, by rw [hR]; exact Nat.le_of_ble_eq_true rfl⟩ (fun H locs hP hD hS => ?_)
  refine lv_if_eq (tgt := 27) hx hb d_Q_source_8 (by decide) (fun hc => ?_) (fun hc => ?_)
  · replace h := it_t h hc
    refine lv_bipush (v := (-101 : Int32)) hx hb d_Q_source_27 (by decide) ?_
    exact rf_I (w := (fun z => wX g ca a z ++ tl)) h hx hb hr hlk hK hP hD hS d_Q_source_29
  · replace h := it_f h hc
    refine lv_iload_n hx hb d_Q_source_11 rfl (lv_at hl 3 rfl) ?_
    refine lv_iconst (v := (-1 : Int32)) hx hb d_Q_source_12 (by decide) ?_
    have L30 : ∀ (σ : St) (x1 : Int32) (x2 : Int32) (x3 : Int32) (H : Heap) (locs : List Loc) (ls : Array Slot), va_P D vCl (wX g ca a σ ++ tl) H → va_D A (wX g ca a σ ++ tl) → va_S A s.heap H locs → lv_has ls 4 [(0, .ref (a 0)), (1, .int x1), (2, .int x2), (3, .int x3)] → f_Q_source_30 N σ x1 x2 x3 = some (r, σ') → W p l e R s m args below meth c H locs 0 0 (MQ below (qb_QI D vCl (tyX ca) (wX g ca a σ' ++ tl) A r) args s 0 0 A) (F0 m 30 ls []) := by
      intro σ x1 x2 x3 H locs ls hP hD hS hl h
      unfold f_Q_source_30 at h
      refine lv_iload_n hx hb d_Q_source_30 rfl (lv_at hl 2 rfl) ?_
      refine lv_if_lt (tgt := 39) hx hb d_Q_source_31 (by decide) (fun hc => ?_) (fun hc => ?_)
      · replace h := it_t h hc
        refine lv_bipush (v := (-102 : Int32)) hx hb d_Q_source_39 (by decide) ?_
        exact rf_I (w := (fun z => wX g ca a z ++ tl)) h hx hb hr hlk hK hP hD hS d_Q_source_41
      · replace h := it_f h hc
        refine lv_iload_n hx hb d_Q_source_34 rfl (lv_at hl 2 rfl) ?_
        refine lv_iconst (v := (2 : Int32)) hx hb d_Q_source_35 (by decide) ?_
        refine lv_icmp_le (tgt := 42) hx hb d_Q_source_36 (by decide) (fun hc => ?_) (fun hc => ?_)
        · replace h := it_t h hc
          refine lv_aload_n hx hb d_Q_source_42 rfl (lv_at hl 0 rfl) ?_
          refine Xg_0_2 hx hb hB hown (hB _ m_391) hK hP d_Q_source_43 ?_
          refine Xg_18_0 hx hb hB hown (hB _ m_199) hK hP d_Q_source_46 ?_
          have L59 : ∀ (σ : St) (x1 : Int32) (x2 : Int32) (x3 : Int32) (H : Heap) (locs : List Loc) (ls : Array Slot), va_P D vCl (wX g ca a σ ++ tl) H → va_D A (wX g ca a σ ++ tl) → va_S A s.heap H locs → lv_has ls 4 [(0, .ref (a 0)), (1, .int x1), (2, .int x2), (3, .int x3)] → f_Q_source_59 N σ x1 x2 x3 = some (r, σ') → W p l e R s m args below meth c H locs 0 0 (MQ below (qb_QI D vCl (tyX ca) (wX g ca a σ' ++ tl) A r) args s 0 0 A) (F0 m 59 ls []) := by
            intro σ x1 x2 x3 H locs ls hP hD hS hl h
            unfold f_Q_source_59 at h
            refine lv_iload_n hx hb d_Q_source_59 rfl (lv_at hl 2 rfl) ?_
            have L68 : ∀ (σ : St) (x1 : Int32) (x2 : Int32) (x3 : Int32) (t0 : Int32) (H : Heap) (locs : List Loc) (ls : Array Slot), va_P D vCl (wX g ca a σ ++ tl) H → va_D A (wX g ca a σ ++ tl) → va_S A s.heap H locs → lv_has ls 4 [(0, .ref (a 0)), (1, .int x1), (2, .int x2), (3, .int x3)] → f_Q_source_68 N σ x1 x2 x3 t0 = some (r, σ') → W p l e R s m args below meth c H locs 0 0 (MQ below (qb_QI D vCl (tyX ca) (wX g ca a σ' ++ tl) A r) args s 0 0 A) (F0 m 68 ls [.int t0]) := by
              intro σ x1 x2 x3 t0 H locs ls hP hD hS hl h
              unfold f_Q_source_68 at h
              refine lv_iload_n hx hb d_Q_source_68 rfl (lv_at hl 3 rfl) ?_
              refine lv_iconst (v := (-1 : Int32)) hx hb d_Q_source_69 (by decide) ?_
              have L78 : ∀ (σ : St) (x1 : Int32) (x2 : Int32) (x3 : Int32) (t0 : Int32) (t1 : Int32) (H : Heap) (locs : List Loc) (ls : Array Slot), va_P D vCl (wX g ca a σ ++ tl) H → va_D A (wX g ca a σ ++ tl) → va_S A s.heap H locs → lv_has ls 4 [(0, .ref (a 0)), (1, .int x1), (2, .int x2), (3, .int x3)] → f_Q_source_78 N σ x1 x2 x3 t0 t1 = some (r, σ') → W p l e R s m args below meth c H locs 0 0 (MQ below (qb_QI D vCl (tyX ca) (wX g ca a σ' ++ tl) A r) args s 0 0 A) (F0 m 78 ls [.int t0, .int t1]) := by
                intro σ x1 x2 x3 t0 t1 H locs ls hP hD hS hl h
                unfold f_Q_source_78 at h
                refine lv_icmp_ne (tgt := 97) hx hb d_Q_source_78 (by decide) (fun hc => ?_) (fun hc => ?_)
                · replace h := it_f h hc
                  refine lv_bipush (v := (-103 : Int32)) hx hb d_Q_source_97 (by decide) ?_
                  exact rf_I (w := (fun z => wX g ca a z ++ tl)) h hx hb hr hlk hK hP hD hS d_Q_source_99
                · replace h := it_t h hc
                  refine lv_iload_n hx hb d_Q_source_81 rfl (lv_at hl 3 rfl) ?_
                  refine lv_iconst (v := (-1 : Int32)) hx hb d_Q_source_82 (by decide) ?_
                  have L100 : ∀ (σ : St) (x1 : Int32) (x2 : Int32) (x3 : Int32) (H : Heap) (locs : List Loc) (ls : Array Slot), va_P D vCl (wX g ca a σ ++ tl) H → va_D A (wX g ca a σ ++ tl) → va_S A s.heap H locs → lv_has ls 4 [(0, .ref (a 0)), (1, .int x1), (2, .int x2), (3, .int x3)] → f_Q_source_100 N σ x1 x2 x3 = some (r, σ') → W p l e R s m args below meth c H locs 0 0 (MQ below (qb_QI D vCl (tyX ca) (wX g ca a σ' ++ tl) A r) args s 0 0 A) (F0 m 100 ls []) := by
                    intro σ x1 x2 x3 H locs ls hP hD hS hl h
                    unfold f_Q_source_100 at h
                    refine lv_aload_n hx hb d_Q_source_100 rfl (lv_at hl 0 rfl) ?_
                    refine Xg_0_2 hx hb hB hown (hB _ m_391) hK hP d_Q_source_101 ?_
                    refine Xg_18_0 hx hb hB hown (hB _ m_199) hK hP d_Q_source_104 ?_
                    refine lv_iconst (v := (3 : Int32)) hx hb d_Q_source_107 (by decide) ?_
                    refine lv_icmp_lt (tgt := 114) hx hb d_Q_source_108 (by decide) (fun hc => ?_) (fun hc => ?_)
                    · replace h := it_t h hc
                      refine lv_aload_n hx hb d_Q_source_114 rfl (lv_at hl 0 rfl) ?_
                      refine Xg_0_2 hx hb hB hown (hB _ m_391) hK hP d_Q_source_115 ?_
                      refine lv_iload_n hx hb d_Q_source_118 rfl (lv_at hl 1 rfl) ?_
                      refine lv_iload_n hx hb d_Q_source_119 rfl (lv_at hl 2 rfl) ?_
                      refine lv_iload_n hx hb d_Q_source_120 rfl (lv_at hl 3 rfl) ?_
                      obtain ⟨r3, s4, hr3, h⟩ := bd_some h
                      refine go_VI (rest := []) ⟨hx, hb, hml, hown, hB⟩ nwX_ok (c_Y_addSource l D ca g a tl N σ s4 x1 x2 x3 r3 hr3) (cwx_V hB m_510 kw_Y_addSource ⟨by rw [hR]; decide, by rw [hR]; decide⟩ rfl rfl) (va_recv hK hP (ci := 7) (q0 := 18) rfl rfl) hN hK hP hD hS hA rfl hl.1 rfl (Nat.le_of_ble_eq_true rfl) d_Q_source_121 ⟨by rw [hR]; exact Nat.le_of_ble_eq_true rfl, by rw [hR]; exact Nat.le_of_ble_eq_true rfl⟩ (fun H locs hP hD hS => ?_)
                      exact rf_I (w := (fun z => wX g ca a z ++ tl)) h hx hb hr hlk hK hP hD hS d_Q_source_124
                    · replace h := it_f h hc
                      refine lv_bipush (v := (-104 : Int32)) hx hb d_Q_source_111 (by decide) ?_
                      exact rf_I (w := (fun z => wX g ca a z ++ tl)) h hx hb hr hlk hK hP hD hS d_Q_source_113
                  refine lv_icmp_eq (tgt := 100) hx hb d_Q_source_83 (by decide) (fun hc => ?_) (fun hc => ?_)
                  · replace h := it_t h hc
                    exact L100 σ x1 x2 x3 H locs ls hP hD hS (lv_sub hl [0, 1, 2, 3] rfl) h
                  · replace h := it_f h hc
                    refine lv_aload_n hx hb d_Q_source_86 rfl (lv_at hl 0 rfl) ?_
                    refine Xg_0_1 hx hb hB hown (hB _ m_390) hK hP d_Q_source_87 ?_
                    refine lv_iload_n hx hb d_Q_source_90 rfl (lv_at hl 3 rfl) ?_
                    obtain ⟨r5, s6, hr5, h⟩ := bd_some h
                    refine go_VI (rest := []) ⟨hx, hb, hml, hown, hB⟩ nwX_ok (c_E_isTruth l D ca g a tl N σ s6 x3 r5 hr5) (cwx_V hB m_493 kw_E_isTruth ⟨by rw [hR]; decide, by rw [hR]; decide⟩ rfl rfl) (va_recv hK hP (ci := 5) (q0 := 6) rfl rfl) hN hK hP hD hS hA rfl hl.1 rfl (Nat.le_of_ble_eq_true rfl) d_Q_source_91 ⟨by rw [hR]; exact Nat.le_of_ble_eq_true rfl, by rw [hR]; exact Nat.le_of_ble_eq_true rfl⟩ (fun H locs hP hD hS => ?_)
                    refine lv_if_ne (tgt := 100) hx hb d_Q_source_94 (by decide) (fun hc => ?_) (fun hc => ?_)
                    · replace h := it_f h hc
                      exact L100 s6 x1 x2 x3 H locs ls hP hD hS (lv_sub hl [0, 1, 2, 3] rfl) h
                    · replace h := it_t h hc
                      refine lv_bipush (v := (-103 : Int32)) hx hb d_Q_source_97 (by decide) ?_
                      exact rf_I (w := (fun z => wX g ca a z ++ tl)) h hx hb hr hlk hK hP hD hS d_Q_source_99
              refine lv_icmp_ne (tgt := 77) hx hb d_Q_source_70 (by decide) (fun hc => ?_) (fun hc => ?_)
              · replace h := it_f h hc
                refine lv_iconst (v := (0 : Int32)) hx hb d_Q_source_77 (by decide) ?_
                exact L78 σ x1 x2 x3 (0 : Int32) t0 H locs ls hP hD hS (lv_sub hl [0, 1, 2, 3] rfl) h
              · replace h := it_t h hc
                refine lv_iconst (v := (1 : Int32)) hx hb d_Q_source_73 (by decide) ?_
                refine lv_goto (tgt := 78) hx hb d_Q_source_74 (by decide) ?_
                exact L78 σ x1 x2 x3 (1 : Int32) t0 H locs ls hP hD hS (lv_sub hl [0, 1, 2, 3] rfl) h
            refine lv_if_ne (tgt := 67) hx hb d_Q_source_60 (by decide) (fun hc => ?_) (fun hc => ?_)
            · replace h := it_f h hc
              refine lv_iconst (v := (0 : Int32)) hx hb d_Q_source_67 (by decide) ?_
              exact L68 σ x1 x2 x3 (0 : Int32) H locs ls hP hD hS (lv_sub hl [0, 1, 2, 3] rfl) h
            · replace h := it_t h hc
              refine lv_iconst (v := (1 : Int32)) hx hb d_Q_source_63 (by decide) ?_
              refine lv_goto (tgt := 68) hx hb d_Q_source_64 (by decide) ?_
              exact L68 σ x1 x2 x3 (1 : Int32) H locs ls hP hD hS (lv_sub hl [0, 1, 2, 3] rfl) h
          refine lv_if_ne (tgt := 59) hx hb d_Q_source_49 (by decide) (fun hc => ?_) (fun hc => ?_)
          · replace h := it_f h hc
            exact L59 σ x1 x2 x3 H locs ls hP hD hS (lv_sub hl [0, 1, 2, 3] rfl) h
          · replace h := it_t h hc
            refine lv_iload_n hx hb d_Q_source_52 rfl (lv_at hl 2 rfl) ?_
            refine lv_if_eq (tgt := 59) hx hb d_Q_source_53 (by decide) (fun hc => ?_) (fun hc => ?_)
            · replace h := it_t h hc
              exact L59 σ x1 x2 x3 H locs ls hP hD hS (lv_sub hl [0, 1, 2, 3] rfl) h
            · replace h := it_f h hc
              refine lv_bipush (v := (-103 : Int32)) hx hb d_Q_source_56 (by decide) ?_
              exact rf_I (w := (fun z => wX g ca a z ++ tl)) h hx hb hr hlk hK hP hD hS d_Q_source_58
        · replace h := it_f h hc
          refine lv_bipush (v := (-102 : Int32)) hx hb d_Q_source_39 (by decide) ?_
          exact rf_I (w := (fun z => wX g ca a z ++ tl)) h hx hb hr hlk hK hP hD hS d_Q_source_41
    refine lv_icmp_eq (tgt := 30) hx hb d_Q_source_13 (by decide) (fun hc => ?_) (fun hc => ?_)
    · replace h := it_t h hc
      exact L30 s2 x1 x2 x3 H locs ls hP hD hS (lv_sub hl [0, 1, 2, 3] rfl) h
    · replace h := it_f h hc
      refine lv_aload_n hx hb d_Q_source_16 rfl (lv_at hl 0 rfl) ?_
      refine Xg_0_1 hx hb hB hown (hB _ m_390) hK hP d_Q_source_17 ?_
      refine lv_iload_n hx hb d_Q_source_20 rfl (lv_at hl 3 rfl) ?_
      obtain ⟨r7, s8, hr7, h⟩ := bd_some h
      refine go_VI (rest := []) ⟨hx, hb, hml, hown, hB⟩ nwX_ok (c_E_has l D ca g a tl N s2 s8 x3 r7 hr7) (cwx_V hB m_492 kw_E_has ⟨by rw [hR]; decide, by rw [hR]; decide⟩ rfl rfl) (va_recv hK hP (ci := 5) (q0 := 6) rfl rfl) hN hK hP hD hS hA rfl hl.1 rfl (Nat.le_of_ble_eq_true rfl) d_Q_source_21 ⟨by rw [hR]; exact Nat.le_of_ble_eq_true rfl, by rw [hR]; exact Nat.le_of_ble_eq_true rfl⟩ (fun H locs hP hD hS => ?_)
      refine lv_if_ne (tgt := 30) hx hb d_Q_source_24 (by decide) (fun hc => ?_) (fun hc => ?_)
      · replace h := it_f h hc
        exact L30 s8 x1 x2 x3 H locs ls hP hD hS (lv_sub hl [0, 1, 2, 3] rfl) h
      · replace h := it_t h hc
        refine lv_bipush (v := (-101 : Int32)) hx hb d_Q_source_27 (by decide) ?_
        exact rf_I (w := (fun z => wX g ca a z ++ tl)) h hx hb hr hlk hK hP hD hS d_Q_source_29
set_option maxRecDepth 100000 in
set_option maxHeartbeats 4000000 in
theorem c_Q_condition (l : Launch) (D : va_G) (ca : Nat → ClassId) (g : Bool) (a : Nat → Nat) (tl : va_W) (N : Nat) (σ σ' : St) (x1 : Int32) (x2 : Int32) (r : Int32) (h : f_Q_condition N σ x1 x2 = some (r, σ')) : CtI l y_Q_condition ws_Q_condition rm_Q_condition 0 0 D vCl (tyX ca) nwX [.ref (a 0), .int x1, .int x2] (wX g ca a σ ++ tl) (wX g ca a σ' ++ tl) r := by
  refine en_I (ws' := BIG) (by decide +kernel) rfl (Nat.le_of_ble_eq_true rfl) ?_
  intro p e s m below meth c A ls R args H locs hR hx hb hr hlk hml hown hB hK hN hP hD hA hS hl
  have hl : lv_has ls 3 [(0, .ref (a 0)), (1, .int x1), (2, .int x2)] := hl
  unfold f_Q_condition at h
  refine lv_aload_n hx hb d_Q_condition_0 rfl (lv_at hl 0 rfl) ?_
  refine Xg_0_1 hx hb hB hown (hB _ m_390) hK hP d_Q_condition_1 ?_
  refine lv_iload_n hx hb d_Q_condition_4 rfl (lv_at hl 2 rfl) ?_
  obtain ⟨r1, s2, hr1, h⟩ := bd_some h
  refine go_VI (rest := []) ⟨hx, hb, hml, hown, hB⟩ nwX_ok (c_E_has l D ca g a tl N σ s2 x2 r1 hr1) (cwx_V hB m_492 kw_E_has ⟨by rw [hR]; decide, by rw [hR]; decide⟩ rfl rfl) (va_recv hK hP (ci := 5) (q0 := 6) rfl rfl) hN hK hP hD hS hA rfl hl.1 rfl (Nat.le_of_ble_eq_true rfl) d_Q_condition_5 ⟨by rw [hR]; exact Nat.le_of_ble_eq_true rfl, by rw [hR]; exact Nat.le_of_ble_eq_true rfl⟩ (fun H locs hP hD hS => ?_)
  refine lv_if_ne (tgt := 14) hx hb d_Q_condition_8 (by decide) (fun hc => ?_) (fun hc => ?_)
  · replace h := it_f h hc
    refine lv_iload_n hx hb d_Q_condition_14 rfl (lv_at hl 1 rfl) ?_
    have L26 : ∀ (σ : St) (x1 : Int32) (x2 : Int32) (H : Heap) (locs : List Loc) (ls : Array Slot), va_P D vCl (wX g ca a σ ++ tl) H → va_D A (wX g ca a σ ++ tl) → va_S A s.heap H locs → lv_has ls 3 [(0, .ref (a 0)), (1, .int x1), (2, .int x2)] → f_Q_condition_26 N σ x1 x2 = some (r, σ') → W p l e R s m args below meth c H locs 0 0 (MQ below (qb_QI D vCl (tyX ca) (wX g ca a σ' ++ tl) A r) args s 0 0 A) (F0 m 26 ls []) := by
      intro σ x1 x2 H locs ls hP hD hS hl h
      unfold f_Q_condition_26 at h
      refine lv_aload_n hx hb d_Q_condition_26 rfl (lv_at hl 0 rfl) ?_
      refine Xg_0_1 hx hb hB hown (hB _ m_390) hK hP d_Q_condition_27 ?_
      refine lv_iload_n hx hb d_Q_condition_30 rfl (lv_at hl 2 rfl) ?_
      obtain ⟨r3, s4, hr3, h⟩ := bd_some h
      refine go_VI (rest := []) ⟨hx, hb, hml, hown, hB⟩ nwX_ok (c_E_isTruth l D ca g a tl N σ s4 x2 r3 hr3) (cwx_V hB m_493 kw_E_isTruth ⟨by rw [hR]; decide, by rw [hR]; decide⟩ rfl rfl) (va_recv hK hP (ci := 5) (q0 := 6) rfl rfl) hN hK hP hD hS hA rfl hl.1 rfl (Nat.le_of_ble_eq_true rfl) d_Q_condition_31 ⟨by rw [hR]; exact Nat.le_of_ble_eq_true rfl, by rw [hR]; exact Nat.le_of_ble_eq_true rfl⟩ (fun H locs hP hD hS => ?_)
      refine lv_if_ne (tgt := 40) hx hb d_Q_condition_34 (by decide) (fun hc => ?_) (fun hc => ?_)
      · replace h := it_f h hc
        refine lv_iload_n hx hb d_Q_condition_40 rfl (lv_at hl 1 rfl) ?_
        refine lv_if_ne (tgt := 55) hx hb d_Q_condition_41 (by decide) (fun hc => ?_) (fun hc => ?_)
        · replace h := it_f h hc
          refine lv_aload_n hx hb d_Q_condition_55 rfl (lv_at hl 0 rfl) ?_
          refine Xg_0_2 hx hb hB hown (hB _ m_391) hK hP d_Q_condition_56 ?_
          refine lv_iload_n hx hb d_Q_condition_59 rfl (lv_at hl 2 rfl) ?_
          obtain ⟨s5, es5, h⟩ := nm_some h
          refine Xp_18_5 es5 hx hb hB hown (hB _ m_216) hK hP hD hS d_Q_condition_60 (fun H locs hP hD hS => ?_)
          refine lv_iconst (v := (1 : Int32)) hx hb d_Q_condition_63 (by decide) ?_
          exact rf_I (w := (fun z => wX g ca a z ++ tl)) h hx hb hr hlk hK hP hD hS d_Q_condition_64
        · replace h := it_t h hc
          refine lv_aload_n hx hb d_Q_condition_44 rfl (lv_at hl 0 rfl) ?_
          refine Xg_0_2 hx hb hB hown (hB _ m_391) hK hP d_Q_condition_45 ?_
          refine lv_iload_n hx hb d_Q_condition_48 rfl (lv_at hl 2 rfl) ?_
          obtain ⟨s6, es6, h⟩ := nm_some h
          refine Xp_18_4 es6 hx hb hB hown (hB _ m_212) hK hP hD hS d_Q_condition_49 (fun H locs hP hD hS => ?_)
          refine lv_goto (tgt := 63) hx hb d_Q_condition_52 (by decide) ?_
          refine lv_iconst (v := (1 : Int32)) hx hb d_Q_condition_63 (by decide) ?_
          exact rf_I (w := (fun z => wX g ca a z ++ tl)) h hx hb hr hlk hK hP hD hS d_Q_condition_64
      · replace h := it_t h hc
        refine lv_bipush (v := (-103 : Int32)) hx hb d_Q_condition_37 (by decide) ?_
        exact rf_I (w := (fun z => wX g ca a z ++ tl)) h hx hb hr hlk hK hP hD hS d_Q_condition_39
    refine lv_if_eq (tgt := 26) hx hb d_Q_condition_15 (by decide) (fun hc => ?_) (fun hc => ?_)
    · replace h := it_t h hc
      exact L26 s2 x1 x2 H locs ls hP hD hS (lv_sub hl [0, 1, 2] rfl) h
    · replace h := it_f h hc
      refine lv_iload_n hx hb d_Q_condition_18 rfl (lv_at hl 1 rfl) ?_
      refine lv_iconst (v := (1 : Int32)) hx hb d_Q_condition_19 (by decide) ?_
      refine lv_icmp_eq (tgt := 26) hx hb d_Q_condition_20 (by decide) (fun hc => ?_) (fun hc => ?_)
      · replace h := it_t h hc
        exact L26 s2 x1 x2 H locs ls hP hD hS (lv_sub hl [0, 1, 2] rfl) h
      · replace h := it_f h hc
        refine lv_bipush (v := (-102 : Int32)) hx hb d_Q_condition_23 (by decide) ?_
        exact rf_I (w := (fun z => wX g ca a z ++ tl)) h hx hb hr hlk hK hP hD hS d_Q_condition_25
  · replace h := it_t h hc
    refine lv_bipush (v := (-101 : Int32)) hx hb d_Q_condition_11 (by decide) ?_
    exact rf_I (w := (fun z => wX g ca a z ++ tl)) h hx hb hr hlk hK hP hD hS d_Q_condition_13
set_option maxRecDepth 100000 in
set_option maxHeartbeats 4000000 in
theorem c_Y_addGroup (l : Launch) (D : va_G) (ca : Nat → ClassId) (g : Bool) (a : Nat → Nat) (tl : va_W) (N : Nat) (σ σ' : St) (x1 : Int32) (r : Int32) (h : f_Y_addGroup N σ x1 = some (r, σ')) : CtI l y_Y_addGroup ws_Y_addGroup rm_Y_addGroup 0 0 D vCl (tyX ca) nwX [.ref (a 18), .int x1] (wX g ca a σ ++ tl) (wX g ca a σ' ++ tl) r := by
  refine en_I (ws' := BIG) (by decide +kernel) rfl (Nat.le_of_ble_eq_true rfl) ?_
  intro p e s m below meth c A ls R args H locs hR hx hb hr hlk hml hown hB hK hN hP hD hA hS hl
  have hl : lv_has ls 2 [(0, .ref (a 18)), (1, .int x1)] := hl
  unfold f_Y_addGroup at h
  refine lv_aload_n hx hb d_Y_addGroup_0 rfl (lv_at hl 0 rfl) ?_
  refine Xg_18_7 hx hb hB hown (hB _ m_221) hK hP d_Y_addGroup_1 ?_
  refine lv_aload_n hx hb d_Y_addGroup_4 rfl (lv_at hl 0 rfl) ?_
  refine Xg_18_6 hx hb hB hown (hB _ m_217) hK hP d_Y_addGroup_5 ?_
  refine lv_iload_n hx hb d_Y_addGroup_8 rfl (lv_at hl 1 rfl) ?_
  obtain ⟨hi, h⟩ := ckb_some h
  obtain ⟨s1, es1, h⟩ := nm_some h
  refine Xs_22 es1 hx hb hK hP hD hS hi d_Y_addGroup_9 (fun H locs hP hD hS => ?_)
  refine lv_aload_n hx hb d_Y_addGroup_10 rfl (lv_at hl 0 rfl) ?_
  refine lv_dup hx hb d_Y_addGroup_11 rfl ?_
  refine Xg_18_6 hx hb hB hown (hB _ m_217) hK hP d_Y_addGroup_12 ?_
  refine lv_iconst (v := (1 : Int32)) hx hb d_Y_addGroup_15 (by decide) ?_
  refine lv_iadd hx hb d_Y_addGroup_16 ?_
  obtain ⟨s2, es2, h⟩ := nm_some h
  refine Xp_18_6 es2 hx hb hB hown (hB _ m_217) hK hP hD hS d_Y_addGroup_17 (fun H locs hP hD hS => ?_)
  refine lv_aload_n hx hb d_Y_addGroup_20 rfl (lv_at hl 0 rfl) ?_
  refine Xg_18_6 hx hb hB hown (hB _ m_217) hK hP d_Y_addGroup_21 ?_
  exact rf_I (w := (fun z => wX g ca a z ++ tl)) h hx hb hr hlk hK hP hD hS d_Y_addGroup_24
