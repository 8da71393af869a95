set_option maxRecDepth 100000 in
set_option maxHeartbeats 4000000 in
theorem c_M_isThere (l : Launch) (D : va_G) (ca : Nat → ClassId) (g : Bool) (a : Nat → Nat) (tl : va_W) (N : Nat) (σ σ' : St) (x1 : Int32) (x2 : Int32) (r : Int32) (h : f_M_isThere N σ x1 x2 = some (r, σ')) : CtI l y_M_isThere ws_M_isThere rm_M_isThere 0 0 D vCl (tyM ca) nwM [.ref (a 0), .int x1, .int x2] (wM g ca a σ ++ tl) (wM g ca a σ' ++ tl) r := by
  refine en_Z (ws' := BIG) (by decide +kernel) rfl (Nat.le_of_ble_eq_true rfl) ?_
  intro p e s m below meth c A ls R args H locs hR hx hb hr hlk hml hown hB hK hN hP hD hA hS hl
  have hl : lv_has ls 3 [(0, .ref (a 0)), (1, .int x1), (2, .int x2)] := hl
  unfold f_M_isThere at h
  refine lv_iload_n hx hb d_M_isThere_0 rfl (lv_at hl 1 rfl) ?_
  refine lv_i2l hx hb d_M_isThere_1 rfl ?_
  refine lv_lconst (v := (0 : Int64)) hx hb d_M_isThere_2 (by decide) ?_
  refine lv_aload_n hx hb d_M_isThere_3 rfl (lv_at hl 0 rfl) ?_
  refine Mg_0_32 hx hb hB hown (hB _ m_893) hK hP d_M_isThere_4 ?_
  refine lv_iconst (v := (1 : Int32)) hx hb d_M_isThere_7 (by decide) ?_
  refine lv_isub hx hb d_M_isThere_8 ?_
  refine lv_i2l hx hb d_M_isThere_9 rfl ?_
  obtain ⟨r1, s2, hr1, h⟩ := bd_some h
  refine go_SI (rest := []) ⟨hx, hb, hml, hown, hB⟩ nwM_ok (c_M_within l D ca g a tl N σ s2 (x1).toInt64 (0 : Int64) (((gi σ 12) - (1 : Int32))).toInt64 r1 hr1) (cwx_S hB m_1032 kw_M_within ⟨by rw [hR]; decide, by rw [hR]; decide⟩ rfl rfl) hN hK hP hD hS hA rfl hl.1 rfl (Nat.le_of_ble_eq_true rfl) d_M_isThere_10 ⟨by rw [hR]; exact Nat.le_of_ble_eq_true rfl, by rw [hR]; exact Nat.le_of_ble_eq_true rfl⟩ (fun H locs hP hD hS => ?_)
  refine lv_if_eq (tgt := 36) hx hb d_M_isThere_13 (by decide) (fun hc => ?_) (fun hc => ?_)
  · replace h := it_t h hc
    refine lv_iconst (v := (0 : Int32)) hx hb d_M_isThere_36 (by decide) ?_
    exact rf_Z (w := (fun z => wM g ca a z ++ tl)) h hx hb hr hlk hK hP hD hS rfl d_M_isThere_37
  · replace h := it_f h hc
    refine lv_iload_n hx hb d_M_isThere_16 rfl (lv_at hl 2 rfl) ?_
    refine lv_i2l hx hb d_M_isThere_17 rfl ?_
    refine lv_lconst (v := (0 : Int64)) hx hb d_M_isThere_18 (by decide) ?_
    refine lv_aload_n hx hb d_M_isThere_19 rfl (lv_at hl 0 rfl) ?_
    refine Mg_0_33 hx hb hB hown (hB _ m_894) hK hP d_M_isThere_20 ?_
    refine lv_iconst (v := (1 : Int32)) hx hb d_M_isThere_23 (by decide) ?_
    refine lv_isub hx hb d_M_isThere_24 ?_
    refine lv_i2l hx hb d_M_isThere_25 rfl ?_
    obtain ⟨r3, s4, hr3, h⟩ := bd_some h
    refine go_SI (rest := []) ⟨hx, hb, hml, hown, hB⟩ nwM_ok (c_M_within l D ca g a tl N s2 s4 (x2).toInt64 (0 : Int64) (((gi s2 13) - (1 : Int32))).toInt64 r3 hr3) (cwx_S hB m_1032 kw_M_within ⟨by rw [hR]; decide, by rw [hR]; decide⟩ rfl rfl) hN hK hP hD hS hA rfl hl.1 rfl (Nat.le_of_ble_eq_true rfl) d_M_isThere_26 ⟨by rw [hR]; exact Nat.le_of_ble_eq_true rfl, by rw [hR]; exact Nat.le_of_ble_eq_true rfl⟩ (fun H locs hP hD hS => ?_)
    refine lv_if_eq (tgt := 36) hx hb d_M_isThere_29 (by decide) (fun hc => ?_) (fun hc => ?_)
    · replace h := it_t h hc
      refine lv_iconst (v := (0 : Int32)) hx hb d_M_isThere_36 (by decide) ?_
      exact rf_Z (w := (fun z => wM g ca a z ++ tl)) h hx hb hr hlk hK hP hD hS rfl d_M_isThere_37
    · replace h := it_f h hc
      refine lv_iconst (v := (1 : Int32)) hx hb d_M_isThere_32 (by decide) ?_
      refine lv_goto (tgt := 37) hx hb d_M_isThere_33 (by decide) ?_
      exact rf_Z (w := (fun z => wM g ca a z ++ tl)) h hx hb hr hlk hK hP hD hS rfl d_M_isThere_37
set_option maxRecDepth 100000 in
set_option maxHeartbeats 4000000 in
theorem c_M_cell (l : Launch) (D : va_G) (ca : Nat → ClassId) (g : Bool) (a : Nat → Nat) (tl : va_W) (N : Nat) (σ σ' : St) (x1 : Int32) (x2 : Int32) (r : Int64) (h : f_M_cell N σ x1 x2 = some (r, σ')) : CtL l y_M_cell ws_M_cell rm_M_cell 0 0 D vCl (tyM ca) nwM [.ref (a 0), .int x1, .int x2] (wM g ca a σ ++ tl) (wM g ca a σ' ++ tl) r := by
  refine en_L (ws' := BIG) (by decide +kernel) rfl (Nat.le_of_ble_eq_true rfl) ?_
  intro p e s m below meth c A ls R args H locs hR hx hb hr hlk hml hown hB hK hN hP hD hA hS hl
  have hl : lv_has ls 3 [(0, .ref (a 0)), (1, .int x1), (2, .int x2)] := hl
  unfold f_M_cell at h
  refine lv_aload_n hx hb d_M_cell_0 rfl (lv_at hl 0 rfl) ?_
  refine lv_iload_n hx hb d_M_cell_1 rfl (lv_at hl 1 rfl) ?_
  refine lv_iload_n hx hb d_M_cell_2 rfl (lv_at hl 2 rfl) ?_
  obtain ⟨r1, s2, hr1, h⟩ := bd_some h
  refine go_VI (rest := []) ⟨hx, hb, hml, hown, hB⟩ nwM_ok (c_M_isThere l D ca g a tl N σ s2 x1 x2 r1 hr1) (cwx_V hB m_1261 kw_M_isThere ⟨by rw [hR]; decide, by rw [hR]; decide⟩ rfl rfl) (va_recv hK hP (ci := 1) (q0 := 0) rfl rfl) hN hK hP hD hS hA rfl hl.1 rfl (Nat.le_of_ble_eq_true rfl) d_M_cell_3 ⟨by rw [hR]; exact Nat.le_of_ble_eq_true rfl, by rw [hR]; exact Nat.le_of_ble_eq_true rfl⟩ (fun H locs hP hD hS => ?_)
  refine lv_if_eq (tgt := 37) hx hb d_M_cell_6 (by decide) (fun hc => ?_) (fun hc => ?_)
  · replace h := it_t h hc
    refine lv_lconst (v := (0 : Int64)) hx hb d_M_cell_37 (by decide) ?_
    exact rf_L (w := (fun z => wM g ca a z ++ tl)) h hx hb hr hlk hK hP hD hS d_M_cell_38
  · replace h := it_f h hc
    refine lv_aload_n hx hb d_M_cell_9 rfl (lv_at hl 0 rfl) ?_
    refine Mg_0_35 hx hb hB hown (hB _ m_896) hK hP d_M_cell_10 ?_
    refine lv_bipush (v := (6 : Int32)) hx hb d_M_cell_13 (by decide) ?_
    refine lv_iload_n hx hb d_M_cell_15 rfl (lv_at hl 1 rfl) ?_
    refine lv_imul hx hb d_M_cell_16 ?_
    refine lv_iload_n hx hb d_M_cell_17 rfl (lv_at hl 2 rfl) ?_
    refine lv_iadd hx hb d_M_cell_18 ?_
    obtain ⟨hi, h⟩ := ckb_some h
    refine Ma_22 hx hb hK hP hi d_M_cell_19 ?_
    refine lv_if_ne (tgt := 37) hx hb d_M_cell_20 (by decide) (fun hc => ?_) (fun hc => ?_)
    · replace h := it_f h hc
      refine lv_lconst (v := (0 : Int64)) hx hb d_M_cell_37 (by decide) ?_
      exact rf_L (w := (fun z => wM g ca a z ++ tl)) h hx hb hr hlk hK hP hD hS d_M_cell_38
    · replace h := it_t h hc
      refine lv_aload_n hx hb d_M_cell_23 rfl (lv_at hl 0 rfl) ?_
      refine Mg_0_34 hx hb hB hown (hB _ m_895) hK hP d_M_cell_24 ?_
      refine lv_bipush (v := (6 : Int32)) hx hb d_M_cell_27 (by decide) ?_
      refine lv_iload_n hx hb d_M_cell_29 rfl (lv_at hl 1 rfl) ?_
      refine lv_imul hx hb d_M_cell_30 ?_
      refine lv_iload_n hx hb d_M_cell_31 rfl (lv_at hl 2 rfl) ?_
      refine lv_iadd hx hb d_M_cell_32 ?_
      obtain ⟨hi, h⟩ := ckb_some h
      refine Ma_21 hx hb hK hP hi d_M_cell_33 ?_
      refine lv_goto (tgt := 38) hx hb d_M_cell_34 (by decide) ?_
      exact rf_L (w := (fun z => wM g ca a z ++ tl)) h hx hb hr hlk hK hP hD hS d_M_cell_38
set_option maxRecDepth 100000 in
set_option maxHeartbeats 4000000 in
theorem c_M_isNull (l : Launch) (D : va_G) (ca : Nat → ClassId) (g : Bool) (a : Nat → Nat) (tl : va_W) (N : Nat) (σ σ' : St) (x1 : Int32) (x2 : Int32) (r : Int32) (h : f_M_isNull N σ x1 x2 = some (r, σ')) : CtI l y_M_isNull ws_M_isNull rm_M_isNull 0 0 D vCl (tyM ca) nwM [.ref (a 0), .int x1, .int x2] (wM g ca a σ ++ tl) (wM g ca a σ' ++ tl) r := by
  refine en_Z (ws' := BIG) (by decide +kernel) rfl (Nat.le_of_ble_eq_true rfl) ?_
  intro p e s m below meth c A ls R args H locs hR hx hb hr hlk hml hown hB hK hN hP hD hA hS hl
  have hl : lv_has ls 3 [(0, .ref (a 0)), (1, .int x1), (2, .int x2)] := hl
  unfold f_M_isNull at h
  refine lv_aload_n hx hb d_M_isNull_0 rfl (lv_at hl 0 rfl) ?_
  refine lv_iload_n hx hb d_M_isNull_1 rfl (lv_at hl 1 rfl) ?_
  refine lv_iload_n hx hb d_M_isNull_2 rfl (lv_at hl 2 rfl) ?_
  obtain ⟨r1, s2, hr1, h⟩ := bd_some h
  refine go_VI (rest := []) ⟨hx, hb, hml, hown, hB⟩ nwM_ok (c_M_isThere l D ca g a tl N σ s2 x1 x2 r1 hr1) (cwx_V hB m_1261 kw_M_isThere ⟨by rw [hR]; decide, by rw [hR]; decide⟩ rfl rfl) (va_recv hK hP (ci := 1) (q0 := 0) rfl rfl) hN hK hP hD hS hA rfl hl.1 rfl (Nat.le_of_ble_eq_true rfl) d_M_isNull_3 ⟨by rw [hR]; exact Nat.le_of_ble_eq_true rfl, by rw [hR]; exact Nat.le_of_ble_eq_true rfl⟩ (fun H locs hP hD hS => ?_)
  refine lv_if_eq (tgt := 27) hx hb d_M_isNull_6 (by decide) (fun hc => ?_) (fun hc => ?_)
  · replace h := it_t h hc
    refine lv_iconst (v := (0 : Int32)) hx hb d_M_isNull_27 (by decide) ?_
    exact rf_Z (w := (fun z => wM g ca a z ++ tl)) h hx hb hr hlk hK hP hD hS rfl d_M_isNull_28
  · replace h := it_f h hc
    refine lv_aload_n hx hb d_M_isNull_9 rfl (lv_at hl 0 rfl) ?_
    refine Mg_0_35 hx hb hB hown (hB _ m_896) hK hP d_M_isNull_10 ?_
    refine lv_bipush (v := (6 : Int32)) hx hb d_M_isNull_13 (by decide) ?_
    refine lv_iload_n hx hb d_M_isNull_15 rfl (lv_at hl 1 rfl) ?_
    refine lv_imul hx hb d_M_isNull_16 ?_
    refine lv_iload_n hx hb d_M_isNull_17 rfl (lv_at hl 2 rfl) ?_
    refine lv_iadd hx hb d_M_isNull_18 ?_
    obtain ⟨hi, h⟩ := ckb_some h
    refine Ma_22 hx hb hK hP hi d_M_isNull_19 ?_
    refine lv_if_eq (tgt := 27) hx hb d_M_isNull_20 (by decide) (fun hc => ?_) (fun hc => ?_)
    · replace h := it_t h hc
      refine lv_iconst (v := (0 : Int32)) hx hb d_M_isNull_27 (by decide) ?_
      exact rf_Z (w := (fun z => wM g ca a z ++ tl)) h hx hb hr hlk hK hP hD hS rfl d_M_isNull_28
    · replace h := it_f h hc
      refine lv_iconst (v := (1 : Int32)) hx hb d_M_isNull_23 (by decide) ?_
      refine lv_goto (tgt := 28) hx hb d_M_isNull_24 (by decide) ?_
      exact rf_Z (w := (fun z => wM g ca a z ++ tl)) h hx hb hr hlk hK hP hD hS rfl d_M_isNull_28
set_option maxRecDepth 100000 in
set_option maxHeartbeats 4000000 in
theorem c_M_answer (l : Launch) (D : va_G) (ca : Nat → ClassId) (g : Bool) (a : Nat → Nat) (tl : va_W) (N : Nat) (σ σ' : St) (x1 : Int32) (r : Int32) (h : f_M_answer N σ x1 = some (r, σ')) : CtI l y_M_answer ws_M_answer rm_M_answer 0 0 D vCl (tyM ca) nwM [.ref (a 0), .int x1] (wM g ca a σ ++ tl) (wM g ca a σ' ++ tl) r := by
  refine en_I (ws' := BIG) (by decide +kernel) rfl (Nat.le_of_ble_eq_true rfl) ?_
  intro p e s m below meth c A ls R args H locs hR hx hb hr hlk hml hown hB hK hN hP hD hA hS hl
  have hl : lv_has ls 2 [(0, .ref (a 0)), (1, .int x1)] := hl
  unfold f_M_answer at h
  refine lv_iload_n hx hb d_M_answer_0 rfl (lv_at hl 1 rfl) ?_
  refine lv_if_ne (tgt := 11) hx hb d_M_answer_1 (by decide) (fun hc => ?_) (fun hc => ?_)
  · replace h := it_f h hc
    refine lv_iload_n hx hb d_M_answer_11 rfl (lv_at hl 1 rfl) ?_
    refine lv_iconst (v := (1 : Int32)) hx hb d_M_answer_12 (by decide) ?_
    refine lv_icmp_ne (tgt := 23) hx hb d_M_answer_13 (by decide) (fun hc => ?_) (fun hc => ?_)
    · replace h := it_f h hc
      refine lv_iconst (v := (-1 : Int32)) hx hb d_M_answer_23 (by decide) ?_
      exact rf_I (w := (fun z => wM g ca a z ++ tl)) h hx hb hr hlk hK hP hD hS d_M_answer_24
    · replace h := it_t h hc
      refine lv_aload_n hx hb d_M_answer_16 rfl (lv_at hl 0 rfl) ?_
      refine Mg_0_33 hx hb hB hown (hB _ m_894) hK hP d_M_answer_17 ?_
      refine lv_goto (tgt := 24) hx hb d_M_answer_20 (by decide) ?_
      exact rf_I (w := (fun z => wM g ca a z ++ tl)) h hx hb hr hlk hK hP hD hS d_M_answer_24
  · replace h := it_t h hc
    refine lv_aload_n hx hb d_M_answer_4 rfl (lv_at hl 0 rfl) ?_
    refine Mg_0_32 hx hb hB hown (hB _ m_893) hK hP d_M_answer_5 ?_
    refine lv_goto (tgt := 24) hx hb d_M_answer_8 (by decide) ?_
    exact rf_I (w := (fun z => wM g ca a z ++ tl)) h hx hb hr hlk hK hP hD hS d_M_answer_24
