set_option maxRecDepth 100000 in
set_option maxHeartbeats 4000000 in
theorem c_Q_group (l : Launch) (D : va_G) (ca : Nat → ClassId) (g : Bool) (a : Nat → Nat) (tl : va_W) (N : Nat) (σ σ' : St) (x1 : Int32) (r : Int32) (h : f_Q_group N σ x1 = some (r, σ')) : CtI l y_Q_group ws_Q_group rm_Q_group 0 0 D vCl (tyX ca) nwX [.ref (a 0), .int x1] (wX g ca a σ ++ tl) (wX g ca a σ' ++ tl) r := by
  refine en_I (ws' := BIG) (by decide +kernel) rfl (Nat.le_of_ble_eq_true rfl) ?_
  intro p e s m below meth c A ls R args H locs hR hx hb hr hlk hml hown hB hK hN hP hD hA hS hl
  have hl : lv_has ls 2 [(0, .ref (a 0)), (1, .int x1)] := hl
  unfold f_Q_group at h
  refine lv_aload_n hx hb d_Q_group_0 rfl (lv_at hl 0 rfl) ?_
  refine Xg_0_1 hx hb hB hown (hB _ m_390) hK hP d_Q_group_1 ?_
  refine lv_iload_n hx hb d_Q_group_4 rfl (lv_at hl 1 rfl) ?_
  obtain ⟨r1, s2, hr1, h⟩ := bd_some h
  refine go_VI (rest := []) ⟨hx, hb, hml, hown, hB⟩ nwX_ok (c_E_has l D ca g a tl N σ s2 x1 r1 hr1) (cwx_V hB m_492 kw_E_has ⟨by rw [hR]; decide, by rw [hR]; decide⟩ rfl rfl) (va_recv hK hP (ci := 5) (q0 := 6) rfl rfl) hN hK hP hD hS hA rfl hl.1 rfl (Nat.le_of_ble_eq_true rfl) d_Q_group_5 ⟨by rw [hR]; exact Nat.le_of_ble_eq_true rfl, by rw [hR]; exact Nat.le_of_ble_eq_true rfl⟩ (fun H locs hP hD hS => ?_)
  refine lv_if_ne (tgt := 14) hx hb d_Q_group_8 (by decide) (fun hc => ?_) (fun hc => ?_)
  · replace h := it_f h hc
    refine lv_aload_n hx hb d_Q_group_14 rfl (lv_at hl 0 rfl) ?_
    refine Xg_0_1 hx hb hB hown (hB _ m_390) hK hP d_Q_group_15 ?_
    refine lv_iload_n hx hb d_Q_group_18 rfl (lv_at hl 1 rfl) ?_
    obtain ⟨r3, s4, hr3, h⟩ := bd_some h
    refine go_VI (rest := []) ⟨hx, hb, hml, hown, hB⟩ nwX_ok (c_E_isTruth l D ca g a tl N s2 s4 x1 r3 hr3) (cwx_V hB m_493 kw_E_isTruth ⟨by rw [hR]; decide, by rw [hR]; decide⟩ rfl rfl) (va_recv hK hP (ci := 5) (q0 := 6) rfl rfl) hN hK hP hD hS hA rfl hl.1 rfl (Nat.le_of_ble_eq_true rfl) d_Q_group_19 ⟨by rw [hR]; exact Nat.le_of_ble_eq_true rfl, by rw [hR]; exact Nat.le_of_ble_eq_true rfl⟩ (fun H locs hP hD hS => ?_)
    refine lv_if_eq (tgt := 28) hx hb d_Q_group_22 (by decide) (fun hc => ?_) (fun hc => ?_)
    · replace h := it_t h hc
      refine lv_aload_n hx hb d_Q_group_28 rfl (lv_at hl 0 rfl) ?_
      refine Xg_0_2 hx hb hB hown (hB _ m_391) hK hP d_Q_group_29 ?_
      refine Xg_18_6 hx hb hB hown (hB _ m_220) hK hP d_Q_group_32 ?_
      refine lv_iconst (v := (4 : Int32)) hx hb d_Q_group_35 (by decide) ?_
      refine lv_icmp_lt (tgt := 42) hx hb d_Q_group_36 (by decide) (fun hc => ?_) (fun hc => ?_)
      · replace h := it_t h hc
        refine lv_aload_n hx hb d_Q_group_42 rfl (lv_at hl 0 rfl) ?_
        refine Xg_0_2 hx hb hB hown (hB _ m_391) hK hP d_Q_group_43 ?_
        refine lv_iload_n hx hb d_Q_group_46 rfl (lv_at hl 1 rfl) ?_
        obtain ⟨r5, s6, hr5, h⟩ := bd_some h
        refine go_VI (rest := []) ⟨hx, hb, hml, hown, hB⟩ nwX_ok (c_Y_addGroup l D ca g a tl N s4 s6 x1 r5 hr5) (cwx_V hB m_522 kw_Y_addGroup ⟨by rw [hR]; decide, by rw [hR]; decide⟩ rfl rfl) (va_recv hK hP (ci := 7) (q0 := 18) rfl rfl) hN hK hP hD hS hA rfl hl.1 rfl (Nat.le_of_ble_eq_true rfl) d_Q_group_47 ⟨by rw [hR]; exact Nat.le_of_ble_eq_true rfl, by rw [hR]; exact Nat.le_of_ble_eq_true rfl⟩ (fun H locs hP hD hS => ?_)
        exact rf_I (w := (fun z => wX g ca a z ++ tl)) h hx hb hr hlk hK hP hD hS d_Q_group_50
      · replace h := it_f h hc
        refine lv_bipush (v := (-104 : Int32)) hx hb d_Q_group_39 (by decide) ?_
        exact rf_I (w := (fun z => wX g ca a z ++ tl)) h hx hb hr hlk hK hP hD hS d_Q_group_41
    · replace h := it_f h hc
      refine lv_bipush (v := (-103 : Int32)) hx hb d_Q_group_25 (by decide) ?_
      exact rf_I (w := (fun z => wX g ca a z ++ tl)) h hx hb hr hlk hK hP hD hS d_Q_group_27
  · replace h := it_t h hc
    refine lv_bipush (v := (-101 : Int32)) hx hb d_Q_group_11 (by decide) ?_
    exact rf_I (w := (fun z => wX g ca a z ++ tl)) h hx hb hr hlk hK hP hD hS d_Q_group_13
set_option maxRecDepth 100000 in
set_option maxHeartbeats 4000000 in
theorem c_Y_addItem (l : Launch) (D : va_G) (ca : Nat → ClassId) (g : Bool) (a : Nat → Nat) (tl : va_W) (N : Nat) (σ σ' : St) (x1 : Int32) (r : Int32) (h : f_Y_addItem N σ x1 = some (r, σ')) : CtI l y_Y_addItem ws_Y_addItem rm_Y_addItem 0 0 D vCl (tyX ca) nwX [.ref (a 18), .int x1] (wX g ca a σ ++ tl) (wX g ca a σ' ++ tl) r := by
  refine en_I (ws' := BIG) (by decide +kernel) rfl (Nat.le_of_ble_eq_true rfl) ?_
  intro p e s m below meth c A ls R args H locs hR hx hb hr hlk hml hown hB hK hN hP hD hA hS hl
  have hl : lv_has ls 2 [(0, .ref (a 18)), (1, .int x1)] := hl
  unfold f_Y_addItem at h
  refine lv_aload_n hx hb d_Y_addItem_0 rfl (lv_at hl 0 rfl) ?_
  refine Xg_18_9 hx hb hB hown (hB _ m_229) hK hP d_Y_addItem_1 ?_
  refine lv_aload_n hx hb d_Y_addItem_4 rfl (lv_at hl 0 rfl) ?_
  refine Xg_18_8 hx hb hB hown (hB _ m_225) hK hP d_Y_addItem_5 ?_
  refine lv_iload_n hx hb d_Y_addItem_8 rfl (lv_at hl 1 rfl) ?_
  obtain ⟨hi, h⟩ := ckb_some h
  obtain ⟨s1, es1, h⟩ := nm_some h
  refine Xs_23 es1 hx hb hK hP hD hS hi d_Y_addItem_9 (fun H locs hP hD hS => ?_)
  refine lv_aload_n hx hb d_Y_addItem_10 rfl (lv_at hl 0 rfl) ?_
  refine lv_dup hx hb d_Y_addItem_11 rfl ?_
  refine Xg_18_8 hx hb hB hown (hB _ m_225) hK hP d_Y_addItem_12 ?_
  refine lv_iconst (v := (1 : Int32)) hx hb d_Y_addItem_15 (by decide) ?_
  refine lv_iadd hx hb d_Y_addItem_16 ?_
  obtain ⟨s2, es2, h⟩ := nm_some h
  refine Xp_18_8 es2 hx hb hB hown (hB _ m_225) hK hP hD hS d_Y_addItem_17 (fun H locs hP hD hS => ?_)
  refine lv_aload_n hx hb d_Y_addItem_20 rfl (lv_at hl 0 rfl) ?_
  refine Xg_18_8 hx hb hB hown (hB _ m_225) hK hP d_Y_addItem_21 ?_
  refine lv_iconst (v := (1 : Int32)) hx hb d_Y_addItem_24 (by decide) ?_
  refine lv_isub hx hb d_Y_addItem_25 ?_
  exact rf_I (w := (fun z => wX g ca a z ++ tl)) h hx hb hr hlk hK hP hD hS d_Y_addItem_26
set_option maxRecDepth 100000 in
set_option maxHeartbeats 4000000 in
theorem c_Q_item (l : Launch) (D : va_G) (ca : Nat → ClassId) (g : Bool) (a : Nat → Nat) (tl : va_W) (N : Nat) (σ σ' : St) (x1 : Int32) (r : Int32) (h : f_Q_item N σ x1 = some (r, σ')) : CtI l y_Q_item ws_Q_item rm_Q_item 0 0 D vCl (tyX ca) nwX [.ref (a 0), .int x1] (wX g ca a σ ++ tl) (wX g ca a σ' ++ tl) r := by
  refine en_I (ws' := BIG) (by decide +kernel) rfl (Nat.le_of_ble_eq_true rfl) ?_
  intro p e s m below meth c A ls R args H locs hR hx hb hr hlk hml hown hB hK hN hP hD hA hS hl
  have hl : lv_has ls 2 [(0, .ref (a 0)), (1, .int x1)] := hl
  unfold f_Q_item at h
  refine lv_aload_n hx hb d_Q_item_0 rfl (lv_at hl 0 rfl) ?_
  refine Xg_0_1 hx hb hB hown (hB _ m_390) hK hP d_Q_item_1 ?_
  refine lv_iload_n hx hb d_Q_item_4 rfl (lv_at hl 1 rfl) ?_
  obtain ⟨r1, s2, hr1, h⟩ := bd_some h
  refine go_VI (rest := []) ⟨hx, hb, hml, hown, hB⟩ nwX_ok (c_E_has l D ca g a tl N σ s2 x1 r1 hr1) (cwx_V hB m_492 kw_E_has ⟨by rw [hR]; decide, by rw [hR]; decide⟩ rfl rfl) (va_recv hK hP (ci := 5) (q0 := 6) rfl rfl) hN hK hP hD hS hA rfl hl.1 rfl (Nat.le_of_ble_eq_true rfl) d_Q_item_5 ⟨by rw [hR]; exact Nat.le_of_ble_eq_true rfl, by rw [hR]; exact Nat.le_of_ble_eq_true rfl⟩ (fun H locs hP hD hS => ?_)
  refine lv_if_ne (tgt := 14) hx hb d_Q_item_8 (by decide) (fun hc => ?_) (fun hc => ?_)
  · replace h := it_f h hc
    refine lv_aload_n hx hb d_Q_item_14 rfl (lv_at hl 0 rfl) ?_
    refine Xg_0_1 hx hb hB hown (hB _ m_390) hK hP d_Q_item_15 ?_
    refine lv_iload_n hx hb d_Q_item_18 rfl (lv_at hl 1 rfl) ?_
    obtain ⟨r3, s4, hr3, h⟩ := bd_some h
    refine go_VI (rest := []) ⟨hx, hb, hml, hown, hB⟩ nwX_ok (c_E_isTruth l D ca g a tl N s2 s4 x1 r3 hr3) (cwx_V hB m_493 kw_E_isTruth ⟨by rw [hR]; decide, by rw [hR]; decide⟩ rfl rfl) (va_recv hK hP (ci := 5) (q0 := 6) rfl rfl) hN hK hP hD hS hA rfl hl.1 rfl (Nat.le_of_ble_eq_true rfl) d_Q_item_19 ⟨by rw [hR]; exact Nat.le_of_ble_eq_true rfl, by rw [hR]; exact Nat.le_of_ble_eq_true rfl⟩ (fun H locs hP hD hS => ?_)
    refine lv_if_eq (tgt := 28) hx hb d_Q_item_22 (by decide) (fun hc => ?_) (fun hc => ?_)
    · replace h := it_t h hc
      refine lv_aload_n hx hb d_Q_item_28 rfl (lv_at hl 0 rfl) ?_
      refine Xg_0_2 hx hb hB hown (hB _ m_391) hK hP d_Q_item_29 ?_
      refine Xg_18_8 hx hb hB hown (hB _ m_228) hK hP d_Q_item_32 ?_
      refine lv_bipush (v := (6 : Int32)) hx hb d_Q_item_35 (by decide) ?_
      refine lv_icmp_lt (tgt := 43) hx hb d_Q_item_37 (by decide) (fun hc => ?_) (fun hc => ?_)
      · replace h := it_t h hc
        refine lv_aload_n hx hb d_Q_item_43 rfl (lv_at hl 0 rfl) ?_
        refine Xg_0_2 hx hb hB hown (hB _ m_391) hK hP d_Q_item_44 ?_
        refine lv_iload_n hx hb d_Q_item_47 rfl (lv_at hl 1 rfl) ?_
        obtain ⟨r5, s6, hr5, h⟩ := bd_some h
        refine go_VI (rest := []) ⟨hx, hb, hml, hown, hB⟩ nwX_ok (c_Y_addItem l D ca g a tl N s4 s6 x1 r5 hr5) (cwx_V hB m_530 kw_Y_addItem ⟨by rw [hR]; decide, by rw [hR]; decide⟩ rfl rfl) (va_recv hK hP (ci := 7) (q0 := 18) rfl rfl) hN hK hP hD hS hA rfl hl.1 rfl (Nat.le_of_ble_eq_true rfl) d_Q_item_48 ⟨by rw [hR]; exact Nat.le_of_ble_eq_true rfl, by rw [hR]; exact Nat.le_of_ble_eq_true rfl⟩ (fun H locs hP hD hS => ?_)
        exact rf_I (w := (fun z => wX g ca a z ++ tl)) h hx hb hr hlk hK hP hD hS d_Q_item_51
      · replace h := it_f h hc
        refine lv_bipush (v := (-104 : Int32)) hx hb d_Q_item_40 (by decide) ?_
        exact rf_I (w := (fun z => wX g ca a z ++ tl)) h hx hb hr hlk hK hP hD hS d_Q_item_42
    · replace h := it_f h hc
      refine lv_bipush (v := (-103 : Int32)) hx hb d_Q_item_25 (by decide) ?_
      exact rf_I (w := (fun z => wX g ca a z ++ tl)) h hx hb hr hlk hK hP hD hS d_Q_item_27
  · replace h := it_t h hc
    refine lv_bipush (v := (-101 : Int32)) hx hb d_Q_item_11 (by decide) ?_
    exact rf_I (w := (fun z => wX g ca a z ++ tl)) h hx hb hr hlk hK hP hD hS d_Q_item_13
set_option maxRecDepth 100000 in
set_option maxHeartbeats 4000000 in
theorem c_Y_addOrder (l : Launch) (D : va_G) (ca : Nat → ClassId) (g : Bool) (a : Nat → Nat) (tl : va_W) (N : Nat) (σ σ' : St) (x1 : Int32) (x2 : Int32) (r : Int32) (h : f_Y_addOrder N σ x1 x2 = some (r, σ')) : CtI l y_Y_addOrder ws_Y_addOrder rm_Y_addOrder 0 0 D vCl (tyX ca) nwX [.ref (a 18), .int x1, .int x2] (wX g ca a σ ++ tl) (wX g ca a σ' ++ tl) r := by
  refine en_I (ws' := BIG) (by decide +kernel) rfl (Nat.le_of_ble_eq_true rfl) ?_
  intro p e s m below meth c A ls R args H locs hR hx hb hr hlk hml hown hB hK hN hP hD hA hS hl
  have hl : lv_has ls 3 [(0, .ref (a 18)), (1, .int x1), (2, .int x2)] := hl
  unfold f_Y_addOrder at h
  refine lv_aload_n hx hb d_Y_addOrder_0 rfl (lv_at hl 0 rfl) ?_
  refine Xg_18_11 hx hb hB hown (hB _ m_235) hK hP d_Y_addOrder_1 ?_
  refine lv_aload_n hx hb d_Y_addOrder_4 rfl (lv_at hl 0 rfl) ?_
  refine Xg_18_10 hx hb hB hown (hB _ m_232) hK hP d_Y_addOrder_5 ?_
  refine lv_iload_n hx hb d_Y_addOrder_8 rfl (lv_at hl 1 rfl) ?_
  obtain ⟨hi, h⟩ := ckb_some h
  obtain ⟨s1, es1, h⟩ := nm_some h
  refine Xs_24 es1 hx hb hK hP hD hS hi d_Y_addOrder_9 (fun H locs hP hD hS => ?_)
  refine lv_aload_n hx hb d_Y_addOrder_10 rfl (lv_at hl 0 rfl) ?_
  refine Xg_18_12 hx hb hB hown (hB _ m_237) hK hP d_Y_addOrder_11 ?_
  refine lv_aload_n hx hb d_Y_addOrder_14 rfl (lv_at hl 0 rfl) ?_
  refine Xg_18_10 hx hb hB hown (hB _ m_232) hK hP d_Y_addOrder_15 ?_
  refine lv_iload_n hx hb d_Y_addOrder_18 rfl (lv_at hl 2 rfl) ?_
  obtain ⟨hi, h⟩ := ckb_some h
  obtain ⟨s2, es2, h⟩ := nm_some h
  refine Xs_25 es2 hx hb hK hP hD hS hi d_Y_addOrder_19 (fun H locs hP hD hS => ?_)
  refine lv_aload_n hx hb d_Y_addOrder_20 rfl (lv_at hl 0 rfl) ?_
  refine lv_dup hx hb d_Y_addOrder_21 rfl ?_
  refine Xg_18_10 hx hb hB hown (hB _ m_232) hK hP d_Y_addOrder_22 ?_
  refine lv_iconst (v := (1 : Int32)) hx hb d_Y_addOrder_25 (by decide) ?_
  refine lv_iadd hx hb d_Y_addOrder_26 ?_
  obtain ⟨s3, es3, h⟩ := nm_some h
  refine Xp_18_10 es3 hx hb hB hown (hB _ m_232) hK hP hD hS d_Y_addOrder_27 (fun H locs hP hD hS => ?_)
  refine lv_aload_n hx hb d_Y_addOrder_30 rfl (lv_at hl 0 rfl) ?_
  refine Xg_18_10 hx hb hB hown (hB _ m_232) hK hP d_Y_addOrder_31 ?_
  exact rf_I (w := (fun z => wX g ca a z ++ tl)) h hx hb hr hlk hK hP hD hS d_Y_addOrder_34
set_option maxRecDepth 100000 in
set_option maxHeartbeats 4000000 in
theorem c_Q_order (l : Launch) (D : va_G) (ca : Nat → ClassId) (g : Bool) (a : Nat → Nat) (tl : va_W) (N : Nat) (σ σ' : St) (x1 : Int32) (x2 : Int32) (r : Int32) (h : f_Q_order N σ x1 x2 = some (r, σ')) : CtI l y_Q_order ws_Q_order rm_Q_order 0 0 D vCl (tyX ca) nwX [.ref (a 0), .int x1, .int x2] (wX g ca a σ ++ tl) (wX g ca a σ' ++ tl) r := by
  refine en_I (ws' := BIG) (by decide +kernel) rfl (Nat.le_of_ble_eq_true rfl) ?_
  intro p e s m below meth c A ls R args H locs hR hx hb hr hlk hml hown hB hK hN hP hD hA hS hl
  have hl : lv_has ls 3 [(0, .ref (a 0)), (1, .int x1), (2, .int x2)] := hl
  unfold f_Q_order at h
  refine lv_iload_n hx hb d_Q_order_0 rfl (lv_at hl 1 rfl) ?_
  refine lv_if_lt (tgt := 15) hx hb d_Q_order_1 (by decide) (fun hc => ?_) (fun hc => ?_)
  · replace h := it_t h hc
    refine lv_bipush (v := (-101 : Int32)) hx hb d_Q_order_15 (by decide) ?_
    exact rf_I (w := (fun z => wX g ca a z ++ tl)) h hx hb hr hlk hK hP hD hS d_Q_order_17
  · replace h := it_f h hc
    refine lv_iload_n hx hb d_Q_order_4 rfl (lv_at hl 1 rfl) ?_
    refine lv_aload_n hx hb d_Q_order_5 rfl (lv_at hl 0 rfl) ?_
    refine Xg_0_2 hx hb hB hown (hB _ m_391) hK hP d_Q_order_6 ?_
    refine Xg_18_8 hx hb hB hown (hB _ m_228) hK hP d_Q_order_9 ?_
    refine lv_icmp_lt (tgt := 18) hx hb d_Q_order_12 (by decide) (fun hc => ?_) (fun hc => ?_)
    · replace h := it_t h hc
      refine lv_aload_n hx hb d_Q_order_18 rfl (lv_at hl 0 rfl) ?_
      refine Xg_0_2 hx hb hB hown (hB _ m_391) hK hP d_Q_order_19 ?_
      refine Xg_18_10 hx hb hB hown (hB _ m_234) hK hP d_Q_order_22 ?_
      refine lv_iconst (v := (4 : Int32)) hx hb d_Q_order_25 (by decide) ?_
      refine lv_icmp_lt (tgt := 32) hx hb d_Q_order_26 (by decide) (fun hc => ?_) (fun hc => ?_)
      · replace h := it_t h hc
        refine lv_aload_n hx hb d_Q_order_32 rfl (lv_at hl 0 rfl) ?_
        refine Xg_0_2 hx hb hB hown (hB _ m_391) hK hP d_Q_order_33 ?_
        refine lv_iload_n hx hb d_Q_order_36 rfl (lv_at hl 1 rfl) ?_
        refine lv_iload_n hx hb d_Q_order_37 rfl (lv_at hl 2 rfl) ?_
        obtain ⟨r1, s2, hr1, h⟩ := bd_some h
        refine go_VI (rest := []) ⟨hx, hb, hml, hown, hB⟩ nwX_ok (c_Y_addOrder l D ca g a tl N σ s2 x1 x2 r1 hr1) (cwx_V hB m_538 kw_Y_addOrder ⟨by rw [hR]; decide, by rw [hR]; decide⟩ rfl rfl) (va_recv hK hP (ci := 7) (q0 := 18) rfl rfl) hN hK hP hD hS hA rfl hl.1 rfl (Nat.le_of_ble_eq_true rfl) d_Q_order_38 ⟨by rw [hR]; exact Nat.le_of_ble_eq_true rfl, by rw [hR]; exact Nat.le_of_ble_eq_true rfl⟩ (fun H locs hP hD hS => ?_)
        exact rf_I (w := (fun z => wX g ca a z ++ tl)) h hx hb hr hlk hK hP hD hS d_Q_order_41
      · replace h := it_f h hc
        refine lv_bipush (v := (-104 : Int32)) hx hb d_Q_order_29 (by decide) ?_
        exact rf_I (w := (fun z => wX g ca a z ++ tl)) h hx hb hr hlk hK hP hD hS d_Q_order_31
    · replace h := it_f h hc
      refine lv_bipush (v := (-101 : Int32)) hx hb d_Q_order_15 (by decide) ?_
      exact rf_I (w := (fun z => wX g ca a z ++ tl)) h hx hb hr hlk hK hP hD hS d_Q_order_17
set_option maxRecDepth 100000 in
set_option maxHeartbeats 4000000 in
theorem c_Q_shape (l : Launch) (D : va_G) (ca : Nat → ClassId) (g : Bool) (a : Nat → Nat) (tl : va_W) (N : Nat) (σ σ' : St) (x1 : Int32) (x2 : Int32) (x3 : Int32) (r : Int32) (h : f_Q_shape N σ x1 x2 x3 = some (r, σ')) : CtI l y_Q_shape ws_Q_shape rm_Q_shape 0 0 D vCl (tyX ca) nwX [.ref (a 0), .int x1, .int x2, .int x3] (wX g ca a σ ++ tl) (wX g ca a σ' ++ tl) r := by
  refine en_I (ws' := BIG) (by decide +kernel) rfl (Nat.le_of_ble_eq_true rfl) ?_
  intro p e s m below meth c A ls R args H locs hR hx hb hr hlk hml hown hB hK hN hP hD hA hS hl
  have hl : lv_has ls 4 [(0, .ref (a 0)), (1, .int x1), (2, .int x2), (3, .int x3)] := hl
  unfold f_Q_shape at h
  refine lv_iload_n hx hb d_Q_shape_0 rfl (lv_at hl 2 rfl) ?_
  refine lv_if_lt (tgt := 22) hx hb d_Q_shape_1 (by decide) (fun hc => ?_) (fun hc => ?_)
  · replace h := it_t h hc
    refine lv_bipush (v := (-102 : Int32)) hx hb d_Q_shape_22 (by decide) ?_
    exact rf_I (w := (fun z => wX g ca a z ++ tl)) h hx hb hr hlk hK hP hD hS d_Q_shape_24
  · replace h := it_f h hc
    refine lv_iload_n hx hb d_Q_shape_4 rfl (lv_at hl 2 rfl) ?_
    refine lv_sipush (v := (1000 : Int32)) hx hb d_Q_shape_5 (by decide) ?_
    refine lv_icmp_gt (tgt := 22) hx hb d_Q_shape_8 (by decide) (fun hc => ?_) (fun hc => ?_)
    · replace h := it_t h hc
      refine lv_bipush (v := (-102 : Int32)) hx hb d_Q_shape_22 (by decide) ?_
      exact rf_I (w := (fun z => wX g ca a z ++ tl)) h hx hb hr hlk hK hP hD hS d_Q_shape_24
    · replace h := it_f h hc
      refine lv_iload_n hx hb d_Q_shape_11 rfl (lv_at hl 3 rfl) ?_
      refine lv_if_lt (tgt := 22) hx hb d_Q_shape_12 (by decide) (fun hc => ?_) (fun hc => ?_)
      · replace h := it_t h hc
        refine lv_bipush (v := (-102 : Int32)) hx hb d_Q_shape_22 (by decide) ?_
        exact rf_I (w := (fun z => wX g ca a z ++ tl)) h hx hb hr hlk hK hP hD hS d_Q_shape_24
      · replace h := it_f h hc
        refine lv_iload_n hx hb d_Q_shape_15 rfl (lv_at hl 3 rfl) ?_
        refine lv_sipush (v := (1000 : Int32)) hx hb d_Q_shape_16 (by decide) ?_
        refine lv_icmp_le (tgt := 25) hx hb d_Q_shape_19 (by decide) (fun hc => ?_) (fun hc => ?_)
        · replace h := it_t h hc
          refine lv_aload_n hx hb d_Q_shape_25 rfl (lv_at hl 0 rfl) ?_
          refine Xg_0_2 hx hb hB hown (hB _ m_391) hK hP d_Q_shape_26 ?_
          refine lv_iload_n hx hb d_Q_shape_29 rfl (lv_at hl 1 rfl) ?_
          refine lv_iload_n hx hb d_Q_shape_30 rfl (lv_at hl 2 rfl) ?_
          refine lv_iload_n hx hb d_Q_shape_31 rfl (lv_at hl 3 rfl) ?_
          obtain ⟨r1, s2, hr1, h⟩ := bd_some h
          cases r1
          refine go_VV (rest := []) ⟨hx, hb, hml, hown, hB⟩ nwX_ok (c_Y_setShape l D ca g a tl N σ s2 x1 x2 x3 hr1) (cwx_V hB m_546 kw_Y_setShape ⟨by rw [hR]; decide, by rw [hR]; decide⟩ rfl rfl) (va_recv hK hP (ci := 7) (q0 := 18) rfl rfl) hN hK hP hD hS hA rfl hl.1 rfl (Nat.le_of_ble_eq_true rfl) d_Q_shape_32 ⟨by rw [hR]; exact Nat.le_of_ble_eq_true rfl, by rw [hR]; exact Nat.le_of_ble_eq_true rfl⟩ (fun H locs hP hD hS => ?_)
          refine lv_iconst (v := (1 : Int32)) hx hb d_Q_shape_35 (by decide) ?_
          exact rf_I (w := (fun z => wX g ca a z ++ tl)) h hx hb hr hlk hK hP hD hS d_Q_shape_36
        · replace h := it_f h hc
          refine lv_bipush (v := (-102 : Int32)) hx hb d_Q_shape_22 (by decide) ?_
          exact rf_I (w := (fun z => wX g ca a z ++ tl)) h hx hb hr hlk hK hP hD hS d_Q_shape_24
set_option maxRecDepth 100000 in
set_option maxHeartbeats 4000000 in
theorem c_A_clear (l : Launch) (D : va_G) (ca : Nat → ClassId) (g : Bool) (a : Nat → Nat) (tl : va_W) (N : Nat) (σ σ' : St) (h : f_A_clear N σ = some ((), σ')) : CtV l y_A_clear ws_A_clear rm_A_clear 0 0 D vCl (tyX ca) nwX [.ref (a 26)] (wX g ca a σ ++ tl) (wX g ca a σ' ++ tl) := by
  refine en_V (ws' := BIG) (by decide +kernel) rfl (Nat.le_of_ble_eq_true rfl) ?_
  intro p e s m below meth c A ls R args H locs hR hx hb hr hlk hml hown hB hK hN hP hD hA hS hl
  have hl : lv_has ls 1 [(0, .ref (a 26))] := hl
  unfold f_A_clear at h
  refine lv_aload_n hx hb d_A_clear_0 rfl (lv_at hl 0 rfl) ?_
  refine lv_iconst (v := (0 : Int32)) hx hb d_A_clear_1 (by decide) ?_
  obtain ⟨s1, es1, h⟩ := nm_some h
  refine Xp_26_0 es1 hx hb hB hown (hB _ m_284) hK hP hD hS d_A_clear_2 (fun H locs hP hD hS => ?_)
  refine lv_aload_n hx hb d_A_clear_5 rfl (lv_at hl 0 rfl) ?_
  refine lv_iconst (v := (0 : Int32)) hx hb d_A_clear_6 (by decide) ?_
  obtain ⟨s2, es2, h⟩ := nm_some h
  refine Xp_26_1 es2 hx hb hB hown (hB _ m_286) hK hP hD hS d_A_clear_7 (fun H locs hP hD hS => ?_)
  refine lv_aload_n hx hb d_A_clear_10 rfl (lv_at hl 0 rfl) ?_
  refine lv_iconst (v := (0 : Int32)) hx hb d_A_clear_11 (by decide) ?_
  obtain ⟨s3, es3, h⟩ := nm_some h
  refine Xp_26_2 es3 hx hb hB hown (hB _ m_288) hK hP hD hS d_A_clear_12 (fun H locs hP hD hS => ?_)
  refine lv_aload_n hx hb d_A_clear_15 rfl (lv_at hl 0 rfl) ?_
  refine lv_iconst (v := (0 : Int32)) hx hb d_A_clear_16 (by decide) ?_
  obtain ⟨s4, es4, h⟩ := nm_some h
  refine Xp_26_3 es4 hx hb hB hown (hB _ m_289) hK hP hD hS d_A_clear_17 (fun H locs hP hD hS => ?_)
  exact rf_V (w := (fun z => wX g ca a z ++ tl)) h hx hb hr hlk hK hP hD hS d_A_clear_20
set_option maxRecDepth 100000 in
set_option maxHeartbeats 4000000 in
theorem c_C_bitsAt (l : Launch) (D : va_G) (ca : Nat → ClassId) (g : Bool) (a : Nat → Nat) (tl : va_W) (N : Nat) (σ σ' : St) (x1 : Int32) (r : Int32) (h : f_C_bitsAt N σ x1 = some (r, σ')) : CtI l y_C_bitsAt ws_C_bitsAt rm_C_bitsAt 0 0 D vCl (tyX ca) nwX [.ref (a 31), .int x1, .ref (a 13)] (wX g ca a σ ++ tl) (wX g ca a σ' ++ tl) r := by
  refine en_I (ws' := BIG) (by decide +kernel) rfl (Nat.le_of_ble_eq_true rfl) ?_
  intro p e s m below meth c A ls R args H locs hR hx hb hr hlk hml hown hB hK hN hP hD hA hS hl
  have hl : lv_has ls 3 [(0, .ref (a 31)), (1, .int x1), (2, .ref (a 13))] := hl
  unfold f_C_bitsAt at h
  refine lv_aload_n hx hb d_C_bitsAt_0 rfl (lv_at hl 0 rfl) ?_
  refine Xg_31_1 hx hb hB hown (hB _ m_321) hK hP d_C_bitsAt_1 ?_
  refine lv_iload_n hx hb d_C_bitsAt_4 rfl (lv_at hl 1 rfl) ?_
  obtain ⟨r1, s2, hr1, h⟩ := bd_some h
  refine go_VI (rest := []) ⟨hx, hb, hml, hown, hB⟩ nwX_ok (c_E_has l D ca g a tl N σ s2 x1 r1 hr1) (cwx_V hB m_571 kw_E_has ⟨by rw [hR]; decide, by rw [hR]; decide⟩ rfl rfl) (va_recv hK hP (ci := 5) (q0 := 6) rfl rfl) hN hK hP hD hS hA rfl hl.1 rfl (Nat.le_of_ble_eq_true rfl) d_C_bitsAt_5 ⟨by rw [hR]; exact Nat.le_of_ble_eq_true rfl, by rw [hR]; exact Nat.le_of_ble_eq_true rfl⟩ (fun H locs hP hD hS => ?_)
  refine lv_if_eq (tgt := 17) hx hb d_C_bitsAt_8 (by decide) (fun hc => ?_) (fun hc => ?_)
  · replace h := it_t h hc
    refine lv_iconst (v := (0 : Int32)) hx hb d_C_bitsAt_17 (by decide) ?_
    exact rf_I (w := (fun z => wX g ca a z ++ tl)) h hx hb hr hlk hK hP hD hS d_C_bitsAt_18
  · replace h := it_f h hc
    refine lv_aload_n hx hb d_C_bitsAt_11 rfl (lv_at hl 2 rfl) ?_
    refine lv_iload_n hx hb d_C_bitsAt_12 rfl (lv_at hl 1 rfl) ?_
    obtain ⟨hi, h⟩ := ckb_some h
    refine Xa_13 hx hb hK hP hi d_C_bitsAt_13 ?_
    refine lv_goto (tgt := 18) hx hb d_C_bitsAt_14 (by decide) ?_
    exact rf_I (w := (fun z => wX g ca a z ++ tl)) h hx hb hr hlk hK hP hD hS d_C_bitsAt_18
set_option maxRecDepth 100000 in
set_option maxHeartbeats 4000000 in
theorem c_C_bitsIn (l : Launch) (D : va_G) (ca : Nat → ClassId) (g : Bool) (a : Nat → Nat) (tl : va_W) (N : Nat) (σ σ' : St) (x2 : Int32) (r : Int32) (h : f_C_bitsIn N σ x2 = some (r, σ')) : CtI l y_C_bitsIn ws_C_bitsIn rm_C_bitsIn 0 0 D vCl (tyX ca) nwX [.ref (a 31), .ref (a 22), .int x2, .ref (a 13)] (wX g ca a σ ++ tl) (wX g ca a σ' ++ tl) r := by
  refine en_I (ws' := BIG) (by decide +kernel) rfl (Nat.le_of_ble_eq_true rfl) ?_
  intro p e s m below meth c A ls R args H locs hR hx hb hr hlk hml hown hB hK hN hP hD hA hS hl
  have hl : lv_has ls 6 [(0, .ref (a 31)), (1, .ref (a 22)), (2, .int x2), (3, .ref (a 13))] := hl
  unfold f_C_bitsIn at h
  refine lv_iconst (v := (0 : Int32)) hx hb d_C_bitsIn_0 (by decide) ?_
  refine lv_istore (lv' := [(4, .int (0 : Int32)), (0, .ref (a 31)), (1, .ref (a 22)), (2, .int x2), (3, .ref (a 13))]) hx hb d_C_bitsIn_1 hl (by decide) rfl (fun ls hl => ?_)
  refine lv_iconst (v := (0 : Int32)) hx hb d_C_bitsIn_3 (by decide) ?_
  have L6 : ∀ (n : Nat) (σ : St) (x2 : Int32) (x4 : Int32) (x5 : Int32) (H : Heap) (locs : List Loc) (ls : Array Slot), va_P D vCl (wX g ca a σ ++ tl) H → va_D A (wX g ca a σ ++ tl) → va_S A s.heap H locs → lv_has ls 6 [(0, .ref (a 31)), (1, .ref (a 22)), (2, .int x2), (3, .ref (a 13)), (4, .int x4), (5, .int x5)] → f_C_bitsIn_6 N n σ x2 x4 x5 = some (r, σ') → W p l e R s m args below meth c H locs 0 0 (MQ below (qb_QI D vCl (tyX ca) (wX g ca a σ' ++ tl) A r) args s 0 0 A) (F0 m 6 ls []) := by
    intro n
    induction n with
    | zero => intro σ x2 x4 x5 H locs ls hP hD hS hl h; cases h
    | succ n ih6 =>
        intro σ x2 x4 x5 H locs ls hP hD hS hl h
        obtain ⟨K6, eK6⟩ : ∃ K, K = f_C_bitsIn_6 N n := ⟨_, rfl⟩
        rw [← eK6] at ih6
        replace h : f_C_bitsIn_6_b N K6 σ x2 x4 x5 = some (r, σ') := by rw [eK6]; exact h
        unfold f_C_bitsIn_6_b at h
        refine lv_iload hx hb d_C_bitsIn_6 (lv_at hl 5 rfl) ?_
        refine lv_iload_n hx hb d_C_bitsIn_8 rfl (lv_at hl 2 rfl) ?_
        refine lv_icmp_ge (tgt := 32) hx hb d_C_bitsIn_9 (by decide) (fun hc => ?_) (fun hc => ?_)
        · replace h := it_t h hc
          refine lv_iload hx hb d_C_bitsIn_32 (lv_at hl 4 rfl) ?_
          exact rf_I (w := (fun z => wX g ca a z ++ tl)) h hx hb hr hlk hK hP hD hS d_C_bitsIn_34
        · replace h := it_f h hc
          refine lv_iload hx hb d_C_bitsIn_12 (lv_at hl 4 rfl) ?_
          refine lv_aload_n hx hb d_C_bitsIn_14 rfl (lv_at hl 0 rfl) ?_
          refine lv_aload_n hx hb d_C_bitsIn_15 rfl (lv_at hl 1 rfl) ?_
          refine lv_iload hx hb d_C_bitsIn_16 (lv_at hl 5 rfl) ?_
          obtain ⟨hi, h⟩ := ckb_some h
          refine Xa_22 hx hb hK hP hi d_C_bitsIn_18 ?_
          refine lv_aload_n hx hb d_C_bitsIn_19 rfl (lv_at hl 3 rfl) ?_
          obtain ⟨r1, s2, hr1, h⟩ := bd_some h
          refine go_VI (rest := [.int x4]) ⟨hx, hb, hml, hown, hB⟩ nwX_ok (c_C_bitsAt l D ca g a tl N σ s2 (ga σ 16 (x5).toNatClampNeg) r1 hr1) (cwx_V hB m_567 kw_C_bitsAt ⟨by rw [hR]; decide, by rw [hR]; decide⟩ rfl rfl) (va_recv hK hP (ci := 3) (q0 := 31) rfl rfl) hN hK hP hD hS hA rfl hl.1 rfl (Nat.le_of_ble_eq_true rfl) d_C_bitsIn_20 ⟨by rw [hR]; exact Nat.le_of_ble_eq_true rfl, by rw [hR]; exact Nat.le_of_ble_eq_true rfl⟩ (fun H locs hP hD hS => ?_)
          refine lv_ior hx hb d_C_bitsIn_23 ?_
          refine lv_istore (lv' := [(4, .int (x4 ||| r1)), (0, .ref (a 31)), (1, .ref (a 22)), (2, .int x2), (3, .ref (a 13)), (5, .int x5)]) hx hb d_C_bitsIn_24 hl (by decide) rfl (fun ls hl => ?_)
          refine lv_iinc (v := (x5 + 1)) (lv' := [(5, .int (x5 + 1)), (4, .int (x4 ||| r1)), (0, .ref (a 31)), (1, .ref (a 22)), (2, .int x2), (3, .ref (a 13))]) hx hb d_C_bitsIn_26 hl (k := 5) rfl rfl (by decide) rfl (fun ls hl => ?_)
          refine lv_goto (tgt := 6) hx hb d_C_bitsIn_29 (by decide) ?_
          exact ih6 s2 x2 (x4 ||| r1) (x5 + 1) H locs ls hP hD hS (lv_sub hl [2, 3, 4, 5, 1, 0] rfl) h
  refine lv_istore (lv' := [(5, .int (0 : Int32)), (4, .int (0 : Int32)), (0, .ref (a 31)), (1, .ref (a 22)), (2, .int x2), (3, .ref (a 13))]) hx hb d_C_bitsIn_4 hl (by decide) rfl (fun ls hl => ?_)
  exact L6 N σ x2 (0 : Int32) (0 : Int32) H locs ls hP hD hS (lv_sub hl [2, 3, 4, 5, 1, 0] rfl) h
set_option maxRecDepth 100000 in
set_option maxHeartbeats 4000000 in
theorem c_C_bitsIn_1 (l : Launch) (D : va_G) (ca : Nat → ClassId) (g : Bool) (a : Nat → Nat) (tl : va_W) (N : Nat) (σ σ' : St) (x2 : Int32) (r : Int32) (h : f_C_bitsIn_1 N σ x2 = some (r, σ')) : CtI l y_C_bitsIn ws_C_bitsIn rm_C_bitsIn_1 0 0 D vCl (tyX ca) nwX [.ref (a 31), .ref (a 23), .int x2, .ref (a 13)] (wX g ca a σ ++ tl) (wX g ca a σ' ++ tl) r := by
  refine en_I (ws' := BIG) (by decide +kernel) rfl (Nat.le_of_ble_eq_true rfl) ?_
  intro p e s m below meth c A ls R args H locs hR hx hb hr hlk hml hown hB hK hN hP hD hA hS hl
  have hl : lv_has ls 6 [(0, .ref (a 31)), (1, .ref (a 23)), (2, .int x2), (3, .ref (a 13))] := hl
  unfold f_C_bitsIn_1 at h
  refine lv_iconst (v := (0 : Int32)) hx hb d_C_bitsIn_0 (by decide) ?_
  refine lv_istore (lv' := [(4, .int (0 : Int32)), (0, .ref (a 31)), (1, .ref (a 23)), (2, .int x2), (3, .ref (a 13))]) hx hb d_C_bitsIn_1 hl (by decide) rfl (fun ls hl => ?_)
  refine lv_iconst (v := (0 : Int32)) hx hb d_C_bitsIn_3 (by decide) ?_
  have L6 : ∀ (n : Nat) (σ : St) (x2 : Int32) (x4 : Int32) (x5 : Int32) (H : Heap) (locs : List Loc) (ls : Array Slot), va_P D vCl (wX g ca a σ ++ tl) H → va_D A (wX g ca a σ ++ tl) → va_S A s.heap H locs → lv_has ls 6 [(0, .ref (a 31)), (1, .ref (a 23)), (2, .int x2), (3, .ref (a 13)), (4, .int x4), (5, .int x5)] → f_C_bitsIn_1_6 N n σ x2 x4 x5 = some (r, σ') → W p l e R s m args below meth c H locs 0 0 (MQ below (qb_QI D vCl (tyX ca) (wX g ca a σ' ++ tl) A r) args s 0 0 A) (F0 m 6 ls []) := by
    intro n
    induction n with
    | zero => intro σ x2 x4 x5 H locs ls hP hD hS hl h; cases h
    | succ n ih6 =>
        intro σ x2 x4 x5 H locs ls hP hD hS hl h
        obtain ⟨K6, eK6⟩ : ∃ K, K = f_C_bitsIn_1_6 N n := ⟨_, rfl⟩
        rw [← eK6] at ih6
        replace h : f_C_bitsIn_1_6_b N K6 σ x2 x4 x5 = some (r, σ') := by rw [eK6]; exact h
        unfold f_C_bitsIn_1_6_b at h
        refine lv_iload hx hb d_C_bitsIn_6 (lv_at hl 5 rfl) ?_
        refine lv_iload_n hx hb d_C_bitsIn_8 rfl (lv_at hl 2 rfl) ?_
        refine lv_icmp_ge (tgt := 32) hx hb d_C_bitsIn_9 (by decide) (fun hc => ?_) (fun hc => ?_)
        · replace h := it_t h hc
          refine lv_iload hx hb d_C_bitsIn_32 (lv_at hl 4 rfl) ?_
          exact rf_I (w := (fun z => wX g ca a z ++ tl)) h hx hb hr hlk hK hP hD hS d_C_bitsIn_34
        · replace h := it_f h hc
          refine lv_iload hx hb d_C_bitsIn_12 (lv_at hl 4 rfl) ?_
          refine lv_aload_n hx hb d_C_bitsIn_14 rfl (lv_at hl 0 rfl) ?_
          refine lv_aload_n hx hb d_C_bitsIn_15 rfl (lv_at hl 1 rfl) ?_
          refine lv_iload hx hb d_C_bitsIn_16 (lv_at hl 5 rfl) ?_
          obtain ⟨hi, h⟩ := ckb_some h
          refine Xa_23 hx hb hK hP hi d_C_bitsIn_18 ?_
          refine lv_aload_n hx hb d_C_bitsIn_19 rfl (lv_at hl 3 rfl) ?_
          obtain ⟨r1, s2, hr1, h⟩ := bd_some h
          refine go_VI (rest := [.int x4]) ⟨hx, hb, hml, hown, hB⟩ nwX_ok (c_C_bitsAt l D ca g a tl N σ s2 (ga σ 17 (x5).toNatClampNeg) r1 hr1) (cwx_V hB m_567 kw_C_bitsAt ⟨by rw [hR]; decide, by rw [hR]; decide⟩ rfl rfl) (va_recv hK hP (ci := 3) (q0 := 31) rfl rfl) hN hK hP hD hS hA rfl hl.1 rfl (Nat.le_of_ble_eq_true rfl) d_C_bitsIn_20 ⟨by rw [hR]; exact Nat.le_of_ble_eq_true rfl, by rw [hR]; exact Nat.le_of_ble_eq_true rfl⟩ (fun H locs hP hD hS => ?_)
          refine lv_ior hx hb d_C_bitsIn_23 ?_
          refine lv_istore (lv' := [(4, .int (x4 ||| r1)), (0, .ref (a 31)), (1, .ref (a 23)), (2, .int x2), (3, .ref (a 13)), (5, .int x5)]) hx hb d_C_bitsIn_24 hl (by decide) rfl (fun ls hl => ?_)
          refine lv_iinc (v := (x5 + 1)) (lv' := [(5, .int (x5 + 1)), (4, .int (x4 ||| r1)), (0, .ref (a 31)), (1, .ref (a 23)), (2, .int x2), (3, .ref (a 13))]) hx hb d_C_bitsIn_26 hl (k := 5) rfl rfl (by decide) rfl (fun ls hl => ?_)
          refine lv_goto (tgt := 6) hx hb d_C_bitsIn_29 (by decide) ?_
          exact ih6 s2 x2 (x4 ||| r1) (x5 + 1) H locs ls hP hD hS (lv_sub hl [2, 3, 4, 5, 1, 0] rfl) h
  refine lv_istore (lv' := [(5, .int (0 : Int32)), (4, .int (0 : Int32)), (0, .ref (a 31)), (1, .ref (a 23)), (2, .int x2), (3, .ref (a 13))]) hx hb d_C_bitsIn_4 hl (by decide) rfl (fun ls hl => ?_)
  exact L6 N σ x2 (0 : Int32) (0 : Int32) H locs ls hP hD hS (lv_sub hl [2, 3, 4, 5, 1, 0] rfl) h
set_option maxRecDepth 100000 in
set_option maxHeartbeats 4000000 in
theorem c_C_columnsUpTo (l : Launch) (D : va_G) (ca : Nat → ClassId) (g : Bool) (a : Nat → Nat) (tl : va_W) (N : Nat) (σ σ' : St) (x1 : Int32) (r : Int32) (h : f_C_columnsUpTo N σ x1 = some (r, σ')) : CtI l y_C_columnsUpTo ws_C_columnsUpTo rm_C_columnsUpTo 0 0 D vCl (tyX ca) nwX [.ref (a 31), .int x1] (wX g ca a σ ++ tl) (wX g ca a σ' ++ tl) r := by
  refine en_I (ws' := BIG) (by decide +kernel) rfl (Nat.le_of_ble_eq_true rfl) ?_
  intro p e s m below meth c A ls R args H locs hR hx hb hr hlk hml hown hB hK hN hP hD hA hS hl
  have hl : lv_has ls 5 [(0, .ref (a 31)), (1, .int x1)] := hl
  unfold f_C_columnsUpTo at h
  refine lv_iconst (v := (0 : Int32)) hx hb d_C_columnsUpTo_0 (by decide) ?_
  refine lv_istore_n (lv' := [(2, .int (0 : Int32)), (0, .ref (a 31)), (1, .int x1)]) hx hb d_C_columnsUpTo_1 rfl hl (by decide) rfl (fun ls hl => ?_)
  refine lv_iconst (v := (0 : Int32)) hx hb d_C_columnsUpTo_2 (by decide) ?_
  have L4 : ∀ (n : Nat) (σ : St) (x1 : Int32) (x2 : Int32) (x3 : Int32) (H : Heap) (locs : List Loc) (ls : Array Slot), va_P D vCl (wX g ca a σ ++ tl) H → va_D A (wX g ca a σ ++ tl) → va_S A s.heap H locs → lv_has ls 5 [(0, .ref (a 31)), (1, .int x1), (2, .int x2), (3, .int x3)] → f_C_columnsUpTo_4 N n σ x1 x2 x3 = some (r, σ') → W p l e R s m args below meth c H locs 0 0 (MQ below (qb_QI D vCl (tyX ca) (wX g ca a σ' ++ tl) A r) args s 0 0 A) (F0 m 4 ls []) := by
    intro n
    induction n with
    | zero => intro σ x1 x2 x3 H locs ls hP hD hS hl h; cases h
    | succ n ih4 =>
        intro σ x1 x2 x3 H locs ls hP hD hS hl h
        obtain ⟨K4, eK4⟩ : ∃ K, K = f_C_columnsUpTo_4 N n := ⟨_, rfl⟩
        rw [← eK4] at ih4
        replace h : f_C_columnsUpTo_4_b N K4 σ x1 x2 x3 = some (r, σ') := by rw [eK4]; exact h
        unfold f_C_columnsUpTo_4_b at h
        refine lv_iload_n hx hb d_C_columnsUpTo_4 rfl (lv_at hl 3 rfl) ?_
        refine lv_iload_n hx hb d_C_columnsUpTo_5 rfl (lv_at hl 1 rfl) ?_
        refine lv_icmp_gt (tgt := 58) hx hb d_C_columnsUpTo_6 (by decide) (fun hc => ?_) (fun hc => ?_)
        · replace h := it_t h hc
          refine lv_iload_n hx hb d_C_columnsUpTo_58 rfl (lv_at hl 2 rfl) ?_
          exact rf_I (w := (fun z => wX g ca a z ++ tl)) h hx hb hr hlk hK hP hD hS d_C_columnsUpTo_59
        · replace h := it_f h hc
          refine lv_iload_n hx hb d_C_columnsUpTo_9 rfl (lv_at hl 3 rfl) ?_
          refine lv_aload_n hx hb d_C_columnsUpTo_10 rfl (lv_at hl 0 rfl) ?_
          refine Xg_31_2 hx hb hB hown (hB _ m_322) hK hP d_C_columnsUpTo_11 ?_
          refine Xg_18_0 hx hb hB hown (hB _ m_197) hK hP d_C_columnsUpTo_14 ?_
          refine lv_icmp_ge (tgt := 58) hx hb d_C_columnsUpTo_17 (by decide) (fun hc => ?_) (fun hc => ?_)
          · replace h := it_t h hc
            refine lv_iload_n hx hb d_C_columnsUpTo_58 rfl (lv_at hl 2 rfl) ?_
            exact rf_I (w := (fun z => wX g ca a z ++ tl)) h hx hb hr hlk hK hP hD hS d_C_columnsUpTo_59
          · replace h := it_f h hc
            refine lv_aload_n hx hb d_C_columnsUpTo_20 rfl (lv_at hl 0 rfl) ?_
            refine Xg_31_0 hx hb hB hown (hB _ m_320) hK hP d_C_columnsUpTo_21 ?_
            refine Xg_1_1 hx hb hB hown (hB _ m_104) hK hP d_C_columnsUpTo_24 ?_
            refine lv_aload_n hx hb d_C_columnsUpTo_27 rfl (lv_at hl 0 rfl) ?_
            refine Xg_31_2 hx hb hB hown (hB _ m_322) hK hP d_C_columnsUpTo_28 ?_
            refine Xg_18_1 hx hb hB hown (hB _ m_203) hK hP d_C_columnsUpTo_31 ?_
            refine lv_iload_n hx hb d_C_columnsUpTo_34 rfl (lv_at hl 3 rfl) ?_
            obtain ⟨hi, h⟩ := ckb_some h
            refine Xa_19 hx hb hK hP hi d_C_columnsUpTo_35 ?_
            obtain ⟨hi, h⟩ := ckb_some h
            refine Xa_2 hx hb hK hP hi d_C_columnsUpTo_36 ?_
            refine lv_istore (lv' := [(4, .int (ga σ 0 ((ga σ 13 (x3).toNatClampNeg)).toNatClampNeg)), (0, .ref (a 31)), (1, .int x1), (2, .int x2), (3, .int x3)]) hx hb d_C_columnsUpTo_37 hl (by decide) rfl (fun ls hl => ?_)
            refine lv_iload_n hx hb d_C_columnsUpTo_39 rfl (lv_at hl 3 rfl) ?_
            refine lv_iconst (v := (1 : Int32)) hx hb d_C_columnsUpTo_40 (by decide) ?_
            refine lv_iload hx hb d_C_columnsUpTo_41 (lv_at hl 0 rfl) ?_
            refine lv_ishl hx hb d_C_columnsUpTo_43 ?_
            refine lv_iconst (v := (1 : Int32)) hx hb d_C_columnsUpTo_44 (by decide) ?_
            refine lv_isub hx hb d_C_columnsUpTo_45 ?_
            refine lv_iload_n hx hb d_C_columnsUpTo_46 rfl (lv_at hl 4 rfl) ?_
            refine lv_iconst (v := (4 : Int32)) hx hb d_C_columnsUpTo_47 (by decide) ?_
            refine lv_imul hx hb d_C_columnsUpTo_48 ?_
            refine lv_ishl hx hb d_C_columnsUpTo_49 ?_
            refine lv_ior hx hb d_C_columnsUpTo_50 ?_
            refine lv_istore_n (lv' := [(2, .int (x2 ||| ((((1 : Int32) <<< ((ga σ 0 ((ga σ 13 (x3).toNatClampNeg)).toNatClampNeg) &&& 31)) - (1 : Int32)) <<< ((x3 * (4 : Int32)) &&& 31)))), (4, .int (ga σ 0 ((ga σ 13 (x3).toNatClampNeg)).toNatClampNeg)), (0, .ref (a 31)), (1, .int x1), (3, .int x3)]) hx hb d_C_columnsUpTo_51 rfl hl (by decide) rfl (fun ls hl => ?_)
            refine lv_iinc (v := (x3 + 1)) (lv' := [(3, .int (x3 + 1)), (2, .int (x2 ||| ((((1 : Int32) <<< ((ga σ 0 ((ga σ 13 (x3).toNatClampNeg)).toNatClampNeg) &&& 31)) - (1 : Int32)) <<< ((x3 * (4 : Int32)) &&& 31)))), (4, .int (ga σ 0 ((ga σ 13 (x3).toNatClampNeg)).toNatClampNeg)), (0, .ref (a 31)), (1, .int x1)]) hx hb d_C_columnsUpTo_52 hl (k := 4) rfl rfl (by decide) rfl (fun ls hl => ?_)
            refine lv_goto (tgt := 4) hx hb d_C_columnsUpTo_55 (by decide) ?_
            exact ih4 σ x1 (x2 ||| ((((1 : Int32) <<< ((ga σ 0 ((ga σ 13 (x3).toNatClampNeg)).toNatClampNeg) &&& 31)) - (1 : Int32)) <<< ((x3 * (4 : Int32)) &&& 31))) (x3 + 1) H locs ls hP hD hS (lv_sub hl [3, 4, 1, 0] rfl) h
  refine lv_istore_n (lv' := [(3, .int (0 : Int32)), (2, .int (0 : Int32)), (0, .ref (a 31)), (1, .int x1)]) hx hb d_C_columnsUpTo_3 rfl hl (by decide) rfl (fun ls hl => ?_)
  exact L4 N σ x1 (0 : Int32) (0 : Int32) H locs ls hP hD hS (lv_sub hl [2, 3, 1, 0] rfl) h
set_option maxRecDepth 100000 in
set_option maxHeartbeats 4000000 in
theorem c_C_hasUnknownColumn (l : Launch) (D : va_G) (ca : Nat → ClassId) (g : Bool) (a : Nat → Nat) (tl : va_W) (N : Nat) (σ σ' : St) (r : Int32) (h : f_C_hasUnknownColumn N σ = some (r, σ')) : CtI l y_C_hasUnknownColumn ws_C_hasUnknownColumn rm_C_hasUnknownColumn 0 0 D vCl (tyX ca) nwX [.ref (a 31)] (wX g ca a σ ++ tl) (wX g ca a σ' ++ tl) r := by
  refine en_Z (ws' := BIG) (by decide +kernel) rfl (Nat.le_of_ble_eq_true rfl) ?_
  intro p e s m below meth c A ls R args H locs hR hx hb hr hlk hml hown hB hK hN hP hD hA hS hl
  have hl : lv_has ls 2 [(0, .ref (a 31))] := hl
  unfold f_C_hasUnknownColumn at h
  refine lv_iconst (v := (0 : Int32)) hx hb d_C_hasUnknownColumn_0 (by decide) ?_
  have L2 : ∀ (n : Nat) (σ : St) (x1 : Int32) (H : Heap) (locs : List Loc) (ls : Array Slot), va_P D vCl (wX g ca a σ ++ tl) H → va_D A (wX g ca a σ ++ tl) → va_S A s.heap H locs → lv_has ls 2 [(0, .ref (a 31)), (1, .int x1)] → f_C_hasUnknownColumn_2 N n σ x1 = some (r, σ') → W p l e R s m args below meth c H locs 0 0 (MQ below (qb_QI D vCl (tyX ca) (wX g ca a σ' ++ tl) A r) args s 0 0 A) (F0 m 2 ls []) := by
    intro n
    induction n with
    | zero => intro σ x1 H locs ls hP hD hS hl h; cases h
    | succ n ih2 =>
        intro σ x1 H locs ls hP hD hS hl h
        obtain ⟨K2, eK2⟩ : ∃ K, K = f_C_hasUnknownColumn_2 N n := ⟨_, rfl⟩
        rw [← eK2] at ih2
        replace h : f_C_hasUnknownColumn_2_b N K2 σ x1 = some (r, σ') := by rw [eK2]; exact h
        unfold f_C_hasUnknownColumn_2_b at h
        refine lv_iload_n hx hb d_C_hasUnknownColumn_2 rfl (lv_at hl 1 rfl) ?_
        refine lv_aload_n hx hb d_C_hasUnknownColumn_3 rfl (lv_at hl 0 rfl) ?_
        refine Xg_31_2 hx hb hB hown (hB _ m_322) hK hP d_C_hasUnknownColumn_4 ?_
        refine Xg_18_0 hx hb hB hown (hB _ m_197) hK hP d_C_hasUnknownColumn_7 ?_
        refine lv_icmp_ge (tgt := 52) hx hb d_C_hasUnknownColumn_10 (by decide) (fun hc => ?_) (fun hc => ?_)
        · replace h := it_t h hc
          refine lv_aload_n hx hb d_C_hasUnknownColumn_52 rfl (lv_at hl 0 rfl) ?_
          refine lv_aload_n hx hb d_C_hasUnknownColumn_53 rfl (lv_at hl 0 rfl) ?_
          refine Xg_31_2 hx hb hB hown (hB _ m_322) hK hP d_C_hasUnknownColumn_54 ?_
          refine Xg_18_4 hx hb hB hown (hB _ m_211) hK hP d_C_hasUnknownColumn_57 ?_
          refine lv_aload_n hx hb d_C_hasUnknownColumn_60 rfl (lv_at hl 0 rfl) ?_
          refine Xg_31_1 hx hb hB hown (hB _ m_321) hK hP d_C_hasUnknownColumn_61 ?_
          refine Xg_6_8 hx hb hB hown (hB _ m_151) hK hP d_C_hasUnknownColumn_64 ?_
          obtain ⟨r1, s2, hr1, h⟩ := bd_some h
          refine go_VI (rest := []) ⟨hx, hb, hml, hown, hB⟩ nwX_ok (c_C_bitsAt l D ca g a tl N σ s2 (gi σ 4) r1 hr1) (cwx_V hB m_567 kw_C_bitsAt ⟨by rw [hR]; decide, by rw [hR]; decide⟩ rfl rfl) (va_recv hK hP (ci := 3) (q0 := 31) rfl rfl) hN hK hP hD hS hA rfl hl.1 rfl (Nat.le_of_ble_eq_true rfl) d_C_hasUnknownColumn_67 ⟨by rw [hR]; exact Nat.le_of_ble_eq_true rfl, by rw [hR]; exact Nat.le_of_ble_eq_true rfl⟩ (fun H locs hP hD hS => ?_)
          refine lv_aload_n hx hb d_C_hasUnknownColumn_70 rfl (lv_at hl 0 rfl) ?_
          refine lv_aload_n hx hb d_C_hasUnknownColumn_71 rfl (lv_at hl 0 rfl) ?_
          refine Xg_31_2 hx hb hB hown (hB _ m_322) hK hP d_C_hasUnknownColumn_72 ?_
          refine Xg_18_5 hx hb hB hown (hB _ m_214) hK hP d_C_hasUnknownColumn_75 ?_
          refine lv_aload_n hx hb d_C_hasUnknownColumn_78 rfl (lv_at hl 0 rfl) ?_
          refine Xg_31_1 hx hb hB hown (hB _ m_321) hK hP d_C_hasUnknownColumn_79 ?_
          refine Xg_6_8 hx hb hB hown (hB _ m_151) hK hP d_C_hasUnknownColumn_82 ?_
          obtain ⟨r3, s4, hr3, h⟩ := bd_some h
          refine go_VI (rest := [.int r1]) ⟨hx, hb, hml, hown, hB⟩ nwX_ok (c_C_bitsAt l D ca g a tl N s2 s4 (gi s2 5) r3 hr3) (cwx_V hB m_567 kw_C_bitsAt ⟨by rw [hR]; decide, by rw [hR]; decide⟩ rfl rfl) (va_recv hK hP (ci := 3) (q0 := 31) rfl rfl) hN hK hP hD hS hA rfl hl.1 rfl (Nat.le_of_ble_eq_true rfl) d_C_hasUnknownColumn_85 ⟨by rw [hR]; exact Nat.le_of_ble_eq_true rfl, by rw [hR]; exact Nat.le_of_ble_eq_true rfl⟩ (fun H locs hP hD hS => ?_)
          refine lv_ior hx hb d_C_hasUnknownColumn_88 ?_
          refine lv_aload_n hx hb d_C_hasUnknownColumn_89 rfl (lv_at hl 0 rfl) ?_
          refine lv_aload_n hx hb d_C_hasUnknownColumn_90 rfl (lv_at hl 0 rfl) ?_
          refine Xg_31_2 hx hb hB hown (hB _ m_322) hK hP d_C_hasUnknownColumn_91 ?_
          refine Xg_18_7 hx hb hB hown (hB _ m_222) hK hP d_C_hasUnknownColumn_94 ?_
          refine lv_aload_n hx hb d_C_hasUnknownColumn_97 rfl (lv_at hl 0 rfl) ?_
          refine Xg_31_2 hx hb hB hown (hB _ m_322) hK hP d_C_hasUnknownColumn_98 ?_
          refine Xg_18_6 hx hb hB hown (hB _ m_219) hK hP d_C_hasUnknownColumn_101 ?_
          refine lv_aload_n hx hb d_C_hasUnknownColumn_104 rfl (lv_at hl 0 rfl) ?_
          refine Xg_31_1 hx hb hB hown (hB _ m_321) hK hP d_C_hasUnknownColumn_105 ?_
          refine Xg_6_8 hx hb hB hown (hB _ m_151) hK hP d_C_hasUnknownColumn_108 ?_
          obtain ⟨r5, s6, hr5, h⟩ := bd_some h
          refine go_VI (rest := [.int (r1 ||| r3)]) ⟨hx, hb, hml, hown, hB⟩ nwX_ok (c_C_bitsIn l D ca g a tl N s4 s6 (gi s4 6) r5 hr5) (cwx_V hB m_576 kw_C_bitsIn ⟨by rw [hR]; decide, by rw [hR]; decide⟩ rfl rfl) (va_recv hK hP (ci := 3) (q0 := 31) rfl rfl) hN hK hP hD hS hA rfl hl.1 rfl (Nat.le_of_ble_eq_true rfl) d_C_hasUnknownColumn_111 ⟨by rw [hR]; exact Nat.le_of_ble_eq_true rfl, by rw [hR]; exact Nat.le_of_ble_eq_true rfl⟩ (fun H locs hP hD hS => ?_)
          refine lv_ior hx hb d_C_hasUnknownColumn_114 ?_
          refine lv_aload_n hx hb d_C_hasUnknownColumn_115 rfl (lv_at hl 0 rfl) ?_
          refine lv_aload_n hx hb d_C_hasUnknownColumn_116 rfl (lv_at hl 0 rfl) ?_
          refine Xg_31_2 hx hb hB hown (hB _ m_322) hK hP d_C_hasUnknownColumn_117 ?_
          refine Xg_18_9 hx hb hB hown (hB _ m_230) hK hP d_C_hasUnknownColumn_120 ?_
          refine lv_aload_n hx hb d_C_hasUnknownColumn_123 rfl (lv_at hl 0 rfl) ?_
          refine Xg_31_2 hx hb hB hown (hB _ m_322) hK hP d_C_hasUnknownColumn_124 ?_
          refine Xg_18_8 hx hb hB hown (hB _ m_224) hK hP d_C_hasUnknownColumn_127 ?_
          refine lv_aload_n hx hb d_C_hasUnknownColumn_130 rfl (lv_at hl 0 rfl) ?_
          refine Xg_31_1 hx hb hB hown (hB _ m_321) hK hP d_C_hasUnknownColumn_131 ?_
          refine Xg_6_8 hx hb hB hown (hB _ m_151) hK hP d_C_hasUnknownColumn_134 ?_
          obtain ⟨r7, s8, hr7, h⟩ := bd_some h
          refine go_VI (rest := [.int ((r1 ||| r3) ||| r5)]) ⟨hx, hb, hml, hown, hB⟩ nwX_ok (c_C_bitsIn_1 l D ca g a tl N s6 s8 (gi s6 7) r7 hr7) (cwx_V hB m_576 kw_C_bitsIn ⟨by rw [hR]; decide, by rw [hR]; decide⟩ rfl rfl) (va_recv hK hP (ci := 3) (q0 := 31) rfl rfl) hN hK hP hD hS hA rfl hl.1 rfl (Nat.le_of_ble_eq_true rfl) d_C_hasUnknownColumn_137 ⟨by rw [hR]; exact Nat.le_of_ble_eq_true rfl, by rw [hR]; exact Nat.le_of_ble_eq_true rfl⟩ (fun H locs hP hD hS => ?_)
          refine lv_ior hx hb d_C_hasUnknownColumn_140 ?_
          refine lv_istore_n (lv' := [(1, .int (((r1 ||| r3) ||| r5) ||| r7)), (0, .ref (a 31))]) hx hb d_C_hasUnknownColumn_141 rfl hl (by decide) rfl (fun ls hl => ?_)
          refine lv_iload_n hx hb d_C_hasUnknownColumn_142 rfl (lv_at hl 0 rfl) ?_
          refine lv_aload_n hx hb d_C_hasUnknownColumn_143 rfl (lv_at hl 1 rfl) ?_
          refine lv_aload_n hx hb d_C_hasUnknownColumn_144 rfl (lv_at hl 1 rfl) ?_
          refine Xg_31_2 hx hb hB hown (hB _ m_322) hK hP d_C_hasUnknownColumn_145 ?_
          refine Xg_18_0 hx hb hB hown (hB _ m_197) hK hP d_C_hasUnknownColumn_148 ?_
          refine lv_iconst (v := (1 : Int32)) hx hb d_C_hasUnknownColumn_151 (by decide) ?_
          refine lv_isub hx hb d_C_hasUnknownColumn_152 ?_
          obtain ⟨r9, s10, hr9, h⟩ := bd_some h
          refine go_VI (rest := [.int (((r1 ||| r3) ||| r5) ||| r7)]) ⟨hx, hb, hml, hown, hB⟩ nwX_ok (c_C_columnsUpTo l D ca g a tl N s8 s10 ((gi s8 3) - (1 : Int32)) r9 hr9) (cwx_V hB m_572 kw_C_columnsUpTo ⟨by rw [hR]; decide, by rw [hR]; decide⟩ rfl rfl) (va_recv hK hP (ci := 3) (q0 := 31) rfl rfl) hN hK hP hD hS hA rfl hl.1 rfl (Nat.le_of_ble_eq_true rfl) d_C_hasUnknownColumn_153 ⟨by rw [hR]; exact Nat.le_of_ble_eq_true rfl, by rw [hR]; exact Nat.le_of_ble_eq_true rfl⟩ (fun H locs hP hD hS => ?_)
          refine lv_iconst (v := (-1 : Int32)) hx hb d_C_hasUnknownColumn_156 (by decide) ?_
          refine lv_ixor hx hb d_C_hasUnknownColumn_157 ?_
          refine lv_iand hx hb d_C_hasUnknownColumn_158 ?_
          refine lv_if_eq (tgt := 166) hx hb d_C_hasUnknownColumn_159 (by decide) (fun hc => ?_) (fun hc => ?_)
          · replace h := it_t h hc
            refine lv_iconst (v := (0 : Int32)) hx hb d_C_hasUnknownColumn_166 (by decide) ?_
            exact rf_Z (w := (fun z => wX g ca a z ++ tl)) h hx hb hr hlk hK hP hD hS rfl d_C_hasUnknownColumn_167
          · replace h := it_f h hc
            refine lv_iconst (v := (1 : Int32)) hx hb d_C_hasUnknownColumn_162 (by decide) ?_
            refine lv_goto (tgt := 167) hx hb d_C_hasUnknownColumn_163 (by decide) ?_
            exact rf_Z (w := (fun z => wX g ca a z ++ tl)) h hx hb hr hlk hK hP hD hS rfl d_C_hasUnknownColumn_167
        · replace h := it_f h hc
          refine lv_aload_n hx hb d_C_hasUnknownColumn_13 rfl (lv_at hl 0 rfl) ?_
          refine lv_aload_n hx hb d_C_hasUnknownColumn_14 rfl (lv_at hl 0 rfl) ?_
          refine Xg_31_2 hx hb hB hown (hB _ m_322) hK hP d_C_hasUnknownColumn_15 ?_
          refine Xg_18_3 hx hb hB hown (hB _ m_208) hK hP d_C_hasUnknownColumn_18 ?_
          refine lv_iload_n hx hb d_C_hasUnknownColumn_21 rfl (lv_at hl 1 rfl) ?_
          obtain ⟨hi, h⟩ := ckb_some h
          refine Xa_21 hx hb hK hP hi d_C_hasUnknownColumn_22 ?_
          refine lv_aload_n hx hb d_C_hasUnknownColumn_23 rfl (lv_at hl 0 rfl) ?_
          refine Xg_31_1 hx hb hB hown (hB _ m_321) hK hP d_C_hasUnknownColumn_24 ?_
          refine Xg_6_8 hx hb hB hown (hB _ m_151) hK hP d_C_hasUnknownColumn_27 ?_
          obtain ⟨r11, s12, hr11, h⟩ := bd_some h
          refine go_VI (rest := []) ⟨hx, hb, hml, hown, hB⟩ nwX_ok (c_C_bitsAt l D ca g a tl N σ s12 (ga σ 15 (x1).toNatClampNeg) r11 hr11) (cwx_V hB m_567 kw_C_bitsAt ⟨by rw [hR]; decide, by rw [hR]; decide⟩ rfl rfl) (va_recv hK hP (ci := 3) (q0 := 31) rfl rfl) hN hK hP hD hS hA rfl hl.1 rfl (Nat.le_of_ble_eq_true rfl) d_C_hasUnknownColumn_30 ⟨by rw [hR]; exact Nat.le_of_ble_eq_true rfl, by rw [hR]; exact Nat.le_of_ble_eq_true rfl⟩ (fun H locs hP hD hS => ?_)
          refine lv_aload_n hx hb d_C_hasUnknownColumn_33 rfl (lv_at hl 0 rfl) ?_
          refine lv_iload_n hx hb d_C_hasUnknownColumn_34 rfl (lv_at hl 1 rfl) ?_
          obtain ⟨r13, s14, hr13, h⟩ := bd_some h
          refine go_VI (rest := [.int r11]) ⟨hx, hb, hml, hown, hB⟩ nwX_ok (c_C_columnsUpTo l D ca g a tl N s12 s14 x1 r13 hr13) (cwx_V hB m_572 kw_C_columnsUpTo ⟨by rw [hR]; decide, by rw [hR]; decide⟩ rfl rfl) (va_recv hK hP (ci := 3) (q0 := 31) rfl rfl) hN hK hP hD hS hA rfl hl.1 rfl (Nat.le_of_ble_eq_true rfl) d_C_hasUnknownColumn_35 ⟨by rw [hR]; exact Nat.le_of_ble_eq_true rfl, by rw [hR]; exact Nat.le_of_ble_eq_true rfl⟩ (fun H locs hP hD hS => ?_)
          refine lv_iconst (v := (-1 : Int32)) hx hb d_C_hasUnknownColumn_38 (by decide) ?_
          refine lv_ixor hx hb d_C_hasUnknownColumn_39 ?_
          refine lv_iand hx hb d_C_hasUnknownColumn_40 ?_
          refine lv_if_eq (tgt := 46) hx hb d_C_hasUnknownColumn_41 (by decide) (fun hc => ?_) (fun hc => ?_)
          · replace h := it_t h hc
            refine lv_iinc (v := (x1 + 1)) (lv' := [(1, .int (x1 + 1)), (0, .ref (a 31))]) hx hb d_C_hasUnknownColumn_46 hl (k := 1) rfl rfl (by decide) rfl (fun ls hl => ?_)
            refine lv_goto (tgt := 2) hx hb d_C_hasUnknownColumn_49 (by decide) ?_
            exact ih2 s14 (x1 + 1) H locs ls hP hD hS (lv_sub hl [1, 0] rfl) h
          · replace h := it_f h hc
            refine lv_iconst (v := (1 : Int32)) hx hb d_C_hasUnknownColumn_44 (by decide) ?_
            exact rf_Z (w := (fun z => wX g ca a z ++ tl)) h hx hb hr hlk hK hP hD hS rfl d_C_hasUnknownColumn_45
  refine lv_istore_n (lv' := [(1, .int (0 : Int32)), (0, .ref (a 31))]) hx hb d_C_hasUnknownColumn_1 rfl hl (by decide) rfl (fun ls hl => ?_)
  exact L2 N σ (0 : Int32) H locs ls hP hD hS (lv_sub hl [1, 0] rfl) h
set_option maxRecDepth 100000 in
set_option maxHeartbeats 4000000 in
theorem c_C_bitsAt_1 (l : Launch) (D : va_G) (ca : Nat → ClassId) (g : Bool) (a : Nat → Nat) (tl : va_W) (N : Nat) (σ σ' : St) (x1 : Int32) (r : Int32) (h : f_C_bitsAt_1 N σ x1 = some (r, σ')) : CtI l y_C_bitsAt ws_C_bitsAt rm_C_bitsAt_1 0 0 D vCl (tyX ca) nwX [.ref (a 31), .int x1, .ref (a 14)] (wX g ca a σ ++ tl) (wX g ca a σ' ++ tl) r := by
  refine en_I (ws' := BIG) (by decide +kernel) rfl (Nat.le_of_ble_eq_true rfl) ?_
  intro p e s m below meth c A ls R args H locs hR hx hb hr hlk hml hown hB hK hN hP hD hA hS hl
  have hl : lv_has ls 3 [(0, .ref (a 31)), (1, .int x1), (2, .ref (a 14))] := hl
  unfold f_C_bitsAt_1 at h
  refine lv_aload_n hx hb d_C_bitsAt_0 rfl (lv_at hl 0 rfl) ?_
  refine Xg_31_1 hx hb hB hown (hB _ m_321) hK hP d_C_bitsAt_1 ?_
  refine lv_iload_n hx hb d_C_bitsAt_4 rfl (lv_at hl 1 rfl) ?_
  obtain ⟨r1, s2, hr1, h⟩ := bd_some h
  refine go_VI (rest := []) ⟨hx, hb, hml, hown, hB⟩ nwX_ok (c_E_has l D ca g a tl N σ s2 x1 r1 hr1) (cwx_V hB m_571 kw_E_has ⟨by rw [hR]; decide, by rw [hR]; decide⟩ rfl rfl) (va_recv hK hP (ci := 5) (q0 := 6) rfl rfl) hN hK hP hD hS hA rfl hl.1 rfl (Nat.le_of_ble_eq_true rfl) d_C_bitsAt_5 ⟨by rw [hR]; exact Nat.le_of_ble_eq_true rfl, by rw [hR]; exact Nat.le_of_ble_eq_true rfl⟩ (fun H locs hP hD hS => ?_)
  refine lv_if_eq (tgt := 17) hx hb d_C_bitsAt_8 (by decide) (fun hc => ?_) (fun hc => ?_)
  · replace h := it_t h hc
    refine lv_iconst (v := (0 : Int32)) hx hb d_C_bitsAt_17 (by decide) ?_
    exact rf_I (w := (fun z => wX g ca a z ++ tl)) h hx hb hr hlk hK hP hD hS d_C_bitsAt_18
  · replace h := it_f h hc
    refine lv_aload_n hx hb d_C_bitsAt_11 rfl (lv_at hl 2 rfl) ?_
    refine lv_iload_n hx hb d_C_bitsAt_12 rfl (lv_at hl 1 rfl) ?_
    obtain ⟨hi, h⟩ := ckb_some h
    refine Xa_14 hx hb hK hP hi d_C_bitsAt_13 ?_
    refine lv_goto (tgt := 18) hx hb d_C_bitsAt_14 (by decide) ?_
    exact rf_I (w := (fun z => wX g ca a z ++ tl)) h hx hb hr hlk hK hP hD hS d_C_bitsAt_18
set_option maxRecDepth 100000 in
set_option maxHeartbeats 4000000 in
theorem c_C_bitsIn_2 (l : Launch) (D : va_G) (ca : Nat → ClassId) (g : Bool) (a : Nat → Nat) (tl : va_W) (N : Nat) (σ σ' : St) (x2 : Int32) (r : Int32) (h : f_C_bitsIn_2 N σ x2 = some (r, σ')) : CtI l y_C_bitsIn ws_C_bitsIn rm_C_bitsIn_2 0 0 D vCl (tyX ca) nwX [.ref (a 31), .ref (a 21), .int x2, .ref (a 14)] (wX g ca a σ ++ tl) (wX g ca a σ' ++ tl) r := by
  refine en_I (ws' := BIG) (by decide +kernel) rfl (Nat.le_of_ble_eq_true rfl) ?_
  intro p e s m below meth c A ls R args H locs hR hx hb hr hlk hml hown hB hK hN hP hD hA hS hl
  have hl : lv_has ls 6 [(0, .ref (a 31)), (1, .ref (a 21)), (2, .int x2), (3, .ref (a 14))] := hl
  unfold f_C_bitsIn_2 at h
  refine lv_iconst (v := (0 : Int32)) hx hb d_C_bitsIn_0 (by decide) ?_
  refine lv_istore (lv' := [(4, .int (0 : Int32)), (0, .ref (a 31)), (1, .ref (a 21)), (2, .int x2), (3, .ref (a 14))]) hx hb d_C_bitsIn_1 hl (by decide) rfl (fun ls hl => ?_)
  refine lv_iconst (v := (0 : Int32)) hx hb d_C_bitsIn_3 (by decide) ?_
  have L6 : ∀ (n : Nat) (σ : St) (x2 : Int32) (x4 : Int32) (x5 : Int32) (H : Heap) (locs : List Loc) (ls : Array Slot), va_P D vCl (wX g ca a σ ++ tl) H → va_D A (wX g ca a σ ++ tl) → va_S A s.heap H locs → lv_has ls 6 [(0, .ref (a 31)), (1, .ref (a 21)), (2, .int x2), (3, .ref (a 14)), (4, .int x4), (5, .int x5)] → f_C_bitsIn_2_6 N n σ x2 x4 x5 = some (r, σ') → W p l e R s m args below meth c H locs 0 0 (MQ below (qb_QI D vCl (tyX ca) (wX g ca a σ' ++ tl) A r) args s 0 0 A) (F0 m 6 ls []) := by
    intro n
    induction n with
    | zero => intro σ x2 x4 x5 H locs ls hP hD hS hl h; cases h
    | succ n ih6 =>
        intro σ x2 x4 x5 H locs ls hP hD hS hl h
        obtain ⟨K6, eK6⟩ : ∃ K, K = f_C_bitsIn_2_6 N n := ⟨_, rfl⟩
        rw [← eK6] at ih6
        replace h : f_C_bitsIn_2_6_b N K6 σ x2 x4 x5 = some (r, σ') := by rw [eK6]; exact h
        unfold f_C_bitsIn_2_6_b at h
        refine lv_iload hx hb d_C_bitsIn_6 (lv_at hl 5 rfl) ?_
        refine lv_iload_n hx hb d_C_bitsIn_8 rfl (lv_at hl 2 rfl) ?_
        refine lv_icmp_ge (tgt := 32) hx hb d_C_bitsIn_9 (by decide) (fun hc => ?_) (fun hc => ?_)
        · replace h := it_t h hc
          refine lv_iload hx hb d_C_bitsIn_32 (lv_at hl 4 rfl) ?_
          exact rf_I (w := (fun z => wX g ca a z ++ tl)) h hx hb hr hlk hK hP hD hS d_C_bitsIn_34
        · replace h := it_f h hc
          refine lv_iload hx hb d_C_bitsIn_12 (lv_at hl 4 rfl) ?_
          refine lv_aload_n hx hb d_C_bitsIn_14 rfl (lv_at hl 0 rfl) ?_
          refine lv_aload_n hx hb d_C_bitsIn_15 rfl (lv_at hl 1 rfl) ?_
          refine lv_iload hx hb d_C_bitsIn_16 (lv_at hl 5 rfl) ?_
          obtain ⟨hi, h⟩ := ckb_some h
          refine Xa_21 hx hb hK hP hi d_C_bitsIn_18 ?_
          refine lv_aload_n hx hb d_C_bitsIn_19 rfl (lv_at hl 3 rfl) ?_
          obtain ⟨r1, s2, hr1, h⟩ := bd_some h
          refine go_VI (rest := [.int x4]) ⟨hx, hb, hml, hown, hB⟩ nwX_ok (c_C_bitsAt_1 l D ca g a tl N σ s2 (ga σ 15 (x5).toNatClampNeg) r1 hr1) (cwx_V hB m_567 kw_C_bitsAt ⟨by rw [hR]; decide, by rw [hR]; decide⟩ rfl rfl) (va_recv hK hP (ci := 3) (q0 := 31) rfl rfl) hN hK hP hD hS hA rfl hl.1 rfl (Nat.le_of_ble_eq_true rfl) d_C_bitsIn_20 ⟨by rw [hR]; exact Nat.le_of_ble_eq_true rfl, by rw [hR]; exact Nat.le_of_ble_eq_true rfl⟩ (fun H locs hP hD hS => ?_)
          refine lv_ior hx hb d_C_bitsIn_23 ?_
          refine lv_istore (lv' := [(4, .int (x4 ||| r1)), (0, .ref (a 31)), (1, .ref (a 21)), (2, .int x2), (3, .ref (a 14)), (5, .int x5)]) hx hb d_C_bitsIn_24 hl (by decide) rfl (fun ls hl => ?_)
          refine lv_iinc (v := (x5 + 1)) (lv' := [(5, .int (x5 + 1)), (4, .int (x4 ||| r1)), (0, .ref (a 31)), (1, .ref (a 21)), (2, .int x2), (3, .ref (a 14))]) hx hb d_C_bitsIn_26 hl (k := 5) rfl rfl (by decide) rfl (fun ls hl => ?_)
          refine lv_goto (tgt := 6) hx hb d_C_bitsIn_29 (by decide) ?_
          exact ih6 s2 x2 (x4 ||| r1) (x5 + 1) H locs ls hP hD hS (lv_sub hl [2, 3, 4, 5, 1, 0] rfl) h
  refine lv_istore (lv' := [(5, .int (0 : Int32)), (4, .int (0 : Int32)), (0, .ref (a 31)), (1, .ref (a 21)), (2, .int x2), (3, .ref (a 14))]) hx hb d_C_bitsIn_4 hl (by decide) rfl (fun ls hl => ?_)
  exact L6 N σ x2 (0 : Int32) (0 : Int32) H locs ls hP hD hS (lv_sub hl [2, 3, 4, 5, 1, 0] rfl) h
set_option maxRecDepth 100000 in
set_option maxHeartbeats 4000000 in
theorem c_C_bitsIn_3 (l : Launch) (D : va_G) (ca : Nat → ClassId) (g : Bool) (a : Nat → Nat) (tl : va_W) (N : Nat) (σ σ' : St) (x2 : Int32) (r : Int32) (h : f_C_bitsIn_3 N σ x2 = some (r, σ')) : CtI l y_C_bitsIn ws_C_bitsIn rm_C_bitsIn_3 0 0 D vCl (tyX ca) nwX [.ref (a 31), .ref (a 22), .int x2, .ref (a 14)] (wX g ca a σ ++ tl) (wX g ca a σ' ++ tl) r := by
  refine en_I (ws' := BIG) (by decide +kernel) rfl (Nat.le_of_ble_eq_true rfl) ?_
  intro p e s m below meth c A ls R args H locs hR hx hb hr hlk hml hown hB hK hN hP hD hA hS hl
  have hl : lv_has ls 6 [(0, .ref (a 31)), (1, .ref (a 22)), (2, .int x2), (3, .ref (a 14))] := hl
  unfold f_C_bitsIn_3 at h
  refine lv_iconst (v := (0 : Int32)) hx hb d_C_bitsIn_0 (by decide) ?_
  refine lv_istore (lv' := [(4, .int (0 : Int32)), (0, .ref (a 31)), (1, .ref (a 22)), (2, .int x2), (3, .ref (a 14))]) hx hb d_C_bitsIn_1 hl (by decide) rfl (fun ls hl => ?_)
  refine lv_iconst (v := (0 : Int32)) hx hb d_C_bitsIn_3 (by decide) ?_
  have L6 : ∀ (n : Nat) (σ : St) (x2 : Int32) (x4 : Int32) (x5 : Int32) (H : Heap) (locs : List Loc) (ls : Array Slot), va_P D vCl (wX g ca a σ ++ tl) H → va_D A (wX g ca a σ ++ tl) → va_S A s.heap H locs → lv_has ls 6 [(0, .ref (a 31)), (1, .ref (a 22)), (2, .int x2), (3, .ref (a 14)), (4, .int x4), (5, .int x5)] → f_C_bitsIn_3_6 N n σ x2 x4 x5 = some (r, σ') → W p l e R s m args below meth c H locs 0 0 (MQ below (qb_QI D vCl (tyX ca) (wX g ca a σ' ++ tl) A r) args s 0 0 A) (F0 m 6 ls []) := by
    intro n
    induction n with
    | zero => intro σ x2 x4 x5 H locs ls hP hD hS hl h; cases h
    | succ n ih6 =>
        intro σ x2 x4 x5 H locs ls hP hD hS hl h
        obtain ⟨K6, eK6⟩ : ∃ K, K = f_C_bitsIn_3_6 N n := ⟨_, rfl⟩
        rw [← eK6] at ih6
        replace h : f_C_bitsIn_3_6_b N K6 σ x2 x4 x5 = some (r, σ') := by rw [eK6]; exact h
        unfold f_C_bitsIn_3_6_b at h
        refine lv_iload hx hb d_C_bitsIn_6 (lv_at hl 5 rfl) ?_
        refine lv_iload_n hx hb d_C_bitsIn_8 rfl (lv_at hl 2 rfl) ?_
        refine lv_icmp_ge (tgt := 32) hx hb d_C_bitsIn_9 (by decide) (fun hc => ?_) (fun hc => ?_)
        · replace h := it_t h hc
          refine lv_iload hx hb d_C_bitsIn_32 (lv_at hl 4 rfl) ?_
          exact rf_I (w := (fun z => wX g ca a z ++ tl)) h hx hb hr hlk hK hP hD hS d_C_bitsIn_34
        · replace h := it_f h hc
          refine lv_iload hx hb d_C_bitsIn_12 (lv_at hl 4 rfl) ?_
          refine lv_aload_n hx hb d_C_bitsIn_14 rfl (lv_at hl 0 rfl) ?_
          refine lv_aload_n hx hb d_C_bitsIn_15 rfl (lv_at hl 1 rfl) ?_
          refine lv_iload hx hb d_C_bitsIn_16 (lv_at hl 5 rfl) ?_
          obtain ⟨hi, h⟩ := ckb_some h
          refine Xa_22 hx hb hK hP hi d_C_bitsIn_18 ?_
          refine lv_aload_n hx hb d_C_bitsIn_19 rfl (lv_at hl 3 rfl) ?_
          obtain ⟨r1, s2, hr1, h⟩ := bd_some h
          refine go_VI (rest := [.int x4]) ⟨hx, hb, hml, hown, hB⟩ nwX_ok (c_C_bitsAt_1 l D ca g a tl N σ s2 (ga σ 16 (x5).toNatClampNeg) r1 hr1) (cwx_V hB m_567 kw_C_bitsAt ⟨by rw [hR]; decide, by rw [hR]; decide⟩ rfl rfl) (va_recv hK hP (ci := 3) (q0 := 31) rfl rfl) hN hK hP hD hS hA rfl hl.1 rfl (Nat.le_of_ble_eq_true rfl) d_C_bitsIn_20 ⟨by rw [hR]; exact Nat.le_of_ble_eq_true rfl, by rw [hR]; exact Nat.le_of_ble_eq_true rfl⟩ (fun H locs hP hD hS => ?_)
          refine lv_ior hx hb d_C_bitsIn_23 ?_
          refine lv_istore (lv' := [(4, .int (x4 ||| r1)), (0, .ref (a 31)), (1, .ref (a 22)), (2, .int x2), (3, .ref (a 14)), (5, .int x5)]) hx hb d_C_bitsIn_24 hl (by decide) rfl (fun ls hl => ?_)
          refine lv_iinc (v := (x5 + 1)) (lv' := [(5, .int (x5 + 1)), (4, .int (x4 ||| r1)), (0, .ref (a 31)), (1, .ref (a 22)), (2, .int x2), (3, .ref (a 14))]) hx hb d_C_bitsIn_26 hl (k := 5) rfl rfl (by decide) rfl (fun ls hl => ?_)
          refine lv_goto (tgt := 6) hx hb d_C_bitsIn_29 (by decide) ?_
          exact ih6 s2 x2 (x4 ||| r1) (x5 + 1) H locs ls hP hD hS (lv_sub hl [2, 3, 4, 5, 1, 0] rfl) h
  refine lv_istore (lv' := [(5, .int (0 : Int32)), (4, .int (0 : Int32)), (0, .ref (a 31)), (1, .ref (a 22)), (2, .int x2), (3, .ref (a 14))]) hx hb d_C_bitsIn_4 hl (by decide) rfl (fun ls hl => ?_)
  exact L6 N σ x2 (0 : Int32) (0 : Int32) H locs ls hP hD hS (lv_sub hl [2, 3, 4, 5, 1, 0] rfl) h
set_option maxRecDepth 100000 in
set_option maxHeartbeats 4000000 in
theorem c_C_hasEarlyAggregate (l : Launch) (D : va_G) (ca : Nat → ClassId) (g : Bool) (a : Nat → Nat) (tl : va_W) (N : Nat) (σ σ' : St) (r : Int32) (h : f_C_hasEarlyAggregate N σ = some (r, σ')) : CtI l y_C_hasEarlyAggregate ws_C_hasEarlyAggregate rm_C_hasEarlyAggregate 0 0 D vCl (tyX ca) nwX [.ref (a 31)] (wX g ca a σ ++ tl) (wX g ca a σ' ++ tl) r := by
  refine en_Z (ws' := BIG) (by decide +kernel) rfl (Nat.le_of_ble_eq_true rfl) ?_
  intro p e s m below meth c A ls R args H locs hR hx hb hr hlk hml hown hB hK hN hP hD hA hS hl
  have hl : lv_has ls 2 [(0, .ref (a 31))] := hl
  unfold f_C_hasEarlyAggregate at h
  refine lv_aload_n hx hb d_C_hasEarlyAggregate_0 rfl (lv_at hl 0 rfl) ?_
  refine lv_aload_n hx hb d_C_hasEarlyAggregate_1 rfl (lv_at hl 0 rfl) ?_
  refine Xg_31_2 hx hb hB hown (hB _ m_322) hK hP d_C_hasEarlyAggregate_2 ?_
  refine Xg_18_3 hx hb hB hown (hB _ m_208) hK hP d_C_hasEarlyAggregate_5 ?_
  refine lv_aload_n hx hb d_C_hasEarlyAggregate_8 rfl (lv_at hl 0 rfl) ?_
  refine Xg_31_2 hx hb hB hown (hB _ m_322) hK hP d_C_hasEarlyAggregate_9 ?_
  refine Xg_18_0 hx hb hB hown (hB _ m_197) hK hP d_C_hasEarlyAggregate_12 ?_
  refine lv_aload_n hx hb d_C_hasEarlyAggregate_15 rfl (lv_at hl 0 rfl) ?_
  refine Xg_31_1 hx hb hB hown (hB _ m_321) hK hP d_C_hasEarlyAggregate_16 ?_
  refine Xg_6_9 hx hb hB hown (hB _ m_153) hK hP d_C_hasEarlyAggregate_19 ?_
  obtain ⟨r1, s2, hr1, h⟩ := bd_some h
  refine go_VI (rest := []) ⟨hx, hb, hml, hown, hB⟩ nwX_ok (c_C_bitsIn_2 l D ca g a tl N σ s2 (gi σ 3) r1 hr1) (cwx_V hB m_576 kw_C_bitsIn ⟨by rw [hR]; decide, by rw [hR]; decide⟩ rfl rfl) (va_recv hK hP (ci := 3) (q0 := 31) rfl rfl) hN hK hP hD hS hA rfl hl.1 rfl (Nat.le_of_ble_eq_true rfl) d_C_hasEarlyAggregate_22 ⟨by rw [hR]; exact Nat.le_of_ble_eq_true rfl, by rw [hR]; exact Nat.le_of_ble_eq_true rfl⟩ (fun H locs hP hD hS => ?_)
  refine lv_aload_n hx hb d_C_hasEarlyAggregate_25 rfl (lv_at hl 0 rfl) ?_
  refine lv_aload_n hx hb d_C_hasEarlyAggregate_26 rfl (lv_at hl 0 rfl) ?_
  refine Xg_31_2 hx hb hB hown (hB _ m_322) hK hP d_C_hasEarlyAggregate_27 ?_
  refine Xg_18_4 hx hb hB hown (hB _ m_211) hK hP d_C_hasEarlyAggregate_30 ?_
  refine lv_aload_n hx hb d_C_hasEarlyAggregate_33 rfl (lv_at hl 0 rfl) ?_
  refine Xg_31_1 hx hb hB hown (hB _ m_321) hK hP d_C_hasEarlyAggregate_34 ?_
  refine Xg_6_9 hx hb hB hown (hB _ m_153) hK hP d_C_hasEarlyAggregate_37 ?_
  obtain ⟨r3, s4, hr3, h⟩ := bd_some h
  refine go_VI (rest := [.int r1]) ⟨hx, hb, hml, hown, hB⟩ nwX_ok (c_C_bitsAt_1 l D ca g a tl N s2 s4 (gi s2 4) r3 hr3) (cwx_V hB m_567 kw_C_bitsAt ⟨by rw [hR]; decide, by rw [hR]; decide⟩ rfl rfl) (va_recv hK hP (ci := 3) (q0 := 31) rfl rfl) hN hK hP hD hS hA rfl hl.1 rfl (Nat.le_of_ble_eq_true rfl) d_C_hasEarlyAggregate_40 ⟨by rw [hR]; exact Nat.le_of_ble_eq_true rfl, by rw [hR]; exact Nat.le_of_ble_eq_true rfl⟩ (fun H locs hP hD hS => ?_)
  refine lv_ior hx hb d_C_hasEarlyAggregate_43 ?_
  refine lv_aload_n hx hb d_C_hasEarlyAggregate_44 rfl (lv_at hl 0 rfl) ?_
  refine lv_aload_n hx hb d_C_hasEarlyAggregate_45 rfl (lv_at hl 0 rfl) ?_
  refine Xg_31_2 hx hb hB hown (hB _ m_322) hK hP d_C_hasEarlyAggregate_46 ?_
  refine Xg_18_7 hx hb hB hown (hB _ m_222) hK hP d_C_hasEarlyAggregate_49 ?_
  refine lv_aload_n hx hb d_C_hasEarlyAggregate_52 rfl (lv_at hl 0 rfl) ?_
  refine Xg_31_2 hx hb hB hown (hB _ m_322) hK hP d_C_hasEarlyAggregate_53 ?_
  refine Xg_18_6 hx hb hB hown (hB _ m_219) hK hP d_C_hasEarlyAggregate_56 ?_
  refine lv_aload_n hx hb d_C_hasEarlyAggregate_59 rfl (lv_at hl 0 rfl) ?_
  refine Xg_31_1 hx hb hB hown (hB _ m_321) hK hP d_C_hasEarlyAggregate_60 ?_
  refine Xg_6_9 hx hb hB hown (hB _ m_153) hK hP d_C_hasEarlyAggregate_63 ?_
  obtain ⟨r5, s6, hr5, h⟩ := bd_some h
  refine go_VI (rest := [.int (r1 ||| r3)]) ⟨hx, hb, hml, hown, hB⟩ nwX_ok (c_C_bitsIn_3 l D ca g a tl N s4 s6 (gi s4 6) r5 hr5) (cwx_V hB m_576 kw_C_bitsIn ⟨by rw [hR]; decide, by rw [hR]; decide⟩ rfl rfl) (va_recv hK hP (ci := 3) (q0 := 31) rfl rfl) hN hK hP hD hS hA rfl hl.1 rfl (Nat.le_of_ble_eq_true rfl) d_C_hasEarlyAggregate_66 ⟨by rw [hR]; exact Nat.le_of_ble_eq_true rfl, by rw [hR]; exact Nat.le_of_ble_eq_true rfl⟩ (fun H locs hP hD hS => ?_)
  refine lv_ior hx hb d_C_hasEarlyAggregate_69 ?_
  refine lv_istore_n (lv' := [(1, .int ((r1 ||| r3) ||| r5)), (0, .ref (a 31))]) hx hb d_C_hasEarlyAggregate_70 rfl hl (by decide) rfl (fun ls hl => ?_)
  refine lv_iload_n hx hb d_C_hasEarlyAggregate_71 rfl (lv_at hl 0 rfl) ?_
  refine lv_if_eq (tgt := 79) hx hb d_C_hasEarlyAggregate_72 (by decide) (fun hc => ?_) (fun hc => ?_)
  · replace h := it_t h hc
    refine lv_iconst (v := (0 : Int32)) hx hb d_C_hasEarlyAggregate_79 (by decide) ?_
    exact rf_Z (w := (fun z => wX g ca a z ++ tl)) h hx hb hr hlk hK hP hD hS rfl d_C_hasEarlyAggregate_80
  · replace h := it_f h hc
    refine lv_iconst (v := (1 : Int32)) hx hb d_C_hasEarlyAggregate_75 (by decide) ?_
    refine lv_goto (tgt := 80) hx hb d_C_hasEarlyAggregate_76 (by decide) ?_
    exact rf_Z (w := (fun z => wX g ca a z ++ tl)) h hx hb hr hlk hK hP hD hS rfl d_C_hasEarlyAggregate_80
set_option maxRecDepth 100000 in
set_option maxHeartbeats 4000000 in
theorem c_C_bitsIn_4 (l : Launch) (D : va_G) (ca : Nat → ClassId) (g : Bool) (a : Nat → Nat) (tl : va_W) (N : Nat) (σ σ' : St) (x2 : Int32) (r : Int32) (h : f_C_bitsIn_4 N σ x2 = some (r, σ')) : CtI l y_C_bitsIn ws_C_bitsIn rm_C_bitsIn_4 0 0 D vCl (tyX ca) nwX [.ref (a 31), .ref (a 23), .int x2, .ref (a 14)] (wX g ca a σ ++ tl) (wX g ca a σ' ++ tl) r := by
  refine en_I (ws' := BIG) (by decide +kernel) rfl (Nat.le_of_ble_eq_true rfl) ?_
  intro p e s m below meth c A ls R args H locs hR hx hb hr hlk hml hown hB hK hN hP hD hA hS hl
  have hl : lv_has ls 6 [(0, .ref (a 31)), (1, .ref (a 23)), (2, .int x2), (3, .ref (a 14))] := hl
  unfold f_C_bitsIn_4 at h
  refine lv_iconst (v := (0 : Int32)) hx hb d_C_bitsIn_0 (by decide) ?_
  refine lv_istore (lv' := [(4, .int (0 : Int32)), (0, .ref (a 31)), (1, .ref (a 23)), (2, .int x2), (3, .ref (a 14))]) hx hb d_C_bitsIn_1 hl (by decide) rfl (fun ls hl => ?_)
  refine lv_iconst (v := (0 : Int32)) hx hb d_C_bitsIn_3 (by decide) ?_
  have L6 : ∀ (n : Nat) (σ : St) (x2 : Int32) (x4 : Int32) (x5 : Int32) (H : Heap) (locs : List Loc) (ls : Array Slot), va_P D vCl (wX g ca a σ ++ tl) H → va_D A (wX g ca a σ ++ tl) → va_S A s.heap H locs → lv_has ls 6 [(0, .ref (a 31)), (1, .ref (a 23)), (2, .int x2), (3, .ref (a 14)), (4, .int x4), (5, .int x5)] → f_C_bitsIn_4_6 N n σ x2 x4 x5 = some (r, σ') → W p l e R s m args below meth c H locs 0 0 (MQ below (qb_QI D vCl (tyX ca) (wX g ca a σ' ++ tl) A r) args s 0 0 A) (F0 m 6 ls []) := by
    intro n
    induction n with
    | zero => intro σ x2 x4 x5 H locs ls hP hD hS hl h; cases h
    | succ n ih6 =>
        intro σ x2 x4 x5 H locs ls hP hD hS hl h
        obtain ⟨K6, eK6⟩ : ∃ K, K = f_C_bitsIn_4_6 N n := ⟨_, rfl⟩
        rw [← eK6] at ih6
        replace h : f_C_bitsIn_4_6_b N K6 σ x2 x4 x5 = some (r, σ') := by rw [eK6]; exact h
        unfold f_C_bitsIn_4_6_b at h
        refine lv_iload hx hb d_C_bitsIn_6 (lv_at hl 5 rfl) ?_
        refine lv_iload_n hx hb d_C_bitsIn_8 rfl (lv_at hl 2 rfl) ?_
        refine lv_icmp_ge (tgt := 32) hx hb d_C_bitsIn_9 (by decide) (fun hc => ?_) (fun hc => ?_)
        · replace h := it_t h hc
          refine lv_iload hx hb d_C_bitsIn_32 (lv_at hl 4 rfl) ?_
          exact rf_I (w := (fun z => wX g ca a z ++ tl)) h hx hb hr hlk hK hP hD hS d_C_bitsIn_34
        · replace h := it_f h hc
          refine lv_iload hx hb d_C_bitsIn_12 (lv_at hl 4 rfl) ?_
          refine lv_aload_n hx hb d_C_bitsIn_14 rfl (lv_at hl 0 rfl) ?_
          refine lv_aload_n hx hb d_C_bitsIn_15 rfl (lv_at hl 1 rfl) ?_
          refine lv_iload hx hb d_C_bitsIn_16 (lv_at hl 5 rfl) ?_
          obtain ⟨hi, h⟩ := ckb_some h
          refine Xa_23 hx hb hK hP hi d_C_bitsIn_18 ?_
          refine lv_aload_n hx hb d_C_bitsIn_19 rfl (lv_at hl 3 rfl) ?_
          obtain ⟨r1, s2, hr1, h⟩ := bd_some h
          refine go_VI (rest := [.int x4]) ⟨hx, hb, hml, hown, hB⟩ nwX_ok (c_C_bitsAt_1 l D ca g a tl N σ s2 (ga σ 17 (x5).toNatClampNeg) r1 hr1) (cwx_V hB m_567 kw_C_bitsAt ⟨by rw [hR]; decide, by rw [hR]; decide⟩ rfl rfl) (va_recv hK hP (ci := 3) (q0 := 31) rfl rfl) hN hK hP hD hS hA rfl hl.1 rfl (Nat.le_of_ble_eq_true rfl) d_C_bitsIn_20 ⟨by rw [hR]; exact Nat.le_of_ble_eq_true rfl, by rw [hR]; exact Nat.le_of_ble_eq_true rfl⟩ (fun H locs hP hD hS => ?_)
          refine lv_ior hx hb d_C_bitsIn_23 ?_
          refine lv_istore (lv' := [(4, .int (x4 ||| r1)), (0, .ref (a 31)), (1, .ref (a 23)), (2, .int x2), (3, .ref (a 14)), (5, .int x5)]) hx hb d_C_bitsIn_24 hl (by decide) rfl (fun ls hl => ?_)
          refine lv_iinc (v := (x5 + 1)) (lv' := [(5, .int (x5 + 1)), (4, .int (x4 ||| r1)), (0, .ref (a 31)), (1, .ref (a 23)), (2, .int x2), (3, .ref (a 14))]) hx hb d_C_bitsIn_26 hl (k := 5) rfl rfl (by decide) rfl (fun ls hl => ?_)
          refine lv_goto (tgt := 6) hx hb d_C_bitsIn_29 (by decide) ?_
          exact ih6 s2 x2 (x4 ||| r1) (x5 + 1) H locs ls hP hD hS (lv_sub hl [2, 3, 4, 5, 1, 0] rfl) h
  refine lv_istore (lv' := [(5, .int (0 : Int32)), (4, .int (0 : Int32)), (0, .ref (a 31)), (1, .ref (a 23)), (2, .int x2), (3, .ref (a 14))]) hx hb d_C_bitsIn_4 hl (by decide) rfl (fun ls hl => ?_)
  exact L6 N σ x2 (0 : Int32) (0 : Int32) H locs ls hP hD hS (lv_sub hl [2, 3, 4, 5, 1, 0] rfl) h
