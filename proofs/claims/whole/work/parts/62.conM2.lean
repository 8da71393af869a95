set_option maxRecDepth 100000 in
set_option maxHeartbeats 4000000 in
theorem c_M_order (l : Launch) (D : va_G) (ca : Nat → ClassId) (g : Bool) (a : Nat → Nat) (tl : va_W) (N : Nat) (σ σ' : St) (x1 : Int32) (x2 : Int32) (r : Int32) (h : f_M_order N σ x1 x2 = some (r, σ')) : CtI l y_M_order ws_M_order rm_M_order 0 0 D vCl (tyM ca) nwM [.ref (a 0), .int x1, .int x2] (wM g ca a σ ++ tl) (wM g ca a σ' ++ tl) r := by
  refine en_I (ws' := BIG) (by decide +kernel) rfl (Nat.le_of_ble_eq_true rfl) ?_
  intro p e s m below meth c A ls R args H locs hR hx hb hr hlk hml hown hB hK hN hP hD hA hS hl
  have hl : lv_has ls 3 [(0, .ref (a 0)), (1, .int x1), (2, .int x2)] := hl
  unfold f_M_order at h
  refine lv_iload_n hx hb d_M_order_0 rfl (lv_at hl 1 rfl) ?_
  refine lv_i2l hx hb d_M_order_1 rfl ?_
  refine lv_lconst (v := (0 : Int64)) hx hb d_M_order_2 (by decide) ?_
  refine lv_aload_n hx hb d_M_order_3 rfl (lv_at hl 0 rfl) ?_
  refine Mg_0_24 hx hb hB hown (hB _ m_885) hK hP d_M_order_4 ?_
  refine lv_iconst (v := (1 : Int32)) hx hb d_M_order_7 (by decide) ?_
  refine lv_isub hx hb d_M_order_8 ?_
  refine lv_i2l hx hb d_M_order_9 rfl ?_
  obtain ⟨r1, s2, hr1, h⟩ := bd_some h
  refine go_SI (rest := []) ⟨hx, hb, hml, hown, hB⟩ nwM_ok (c_M_within l D ca g a tl N σ s2 (x1).toInt64 (0 : Int64) (((gi σ 7) - (1 : Int32))).toInt64 r1 hr1) (cwx_S hB m_1032 kw_M_within ⟨by rw [hR]; decide, by rw [hR]; decide⟩ rfl rfl) hN hK hP hD hS hA rfl hl.1 rfl (Nat.le_of_ble_eq_true rfl) d_M_order_10 ⟨by rw [hR]; exact Nat.le_of_ble_eq_true rfl, by rw [hR]; exact Nat.le_of_ble_eq_true rfl⟩ (fun H locs hP hD hS => ?_)
  refine lv_if_ne (tgt := 19) hx hb d_M_order_13 (by decide) (fun hc => ?_) (fun hc => ?_)
  · replace h := it_f h hc
    refine lv_aload_n hx hb d_M_order_19 rfl (lv_at hl 0 rfl) ?_
    refine Mg_0_26 hx hb hB hown (hB _ m_887) hK hP d_M_order_20 ?_
    refine lv_iconst (v := (4 : Int32)) hx hb d_M_order_23 (by decide) ?_
    refine lv_icmp_ne (tgt := 30) hx hb d_M_order_24 (by decide) (fun hc => ?_) (fun hc => ?_)
    · replace h := it_f h hc
      refine lv_aload_n hx hb d_M_order_30 rfl (lv_at hl 0 rfl) ?_
      refine Mg_0_27 hx hb hB hown (hB _ m_888) hK hP d_M_order_31 ?_
      refine lv_aload_n hx hb d_M_order_34 rfl (lv_at hl 0 rfl) ?_
      refine Mg_0_26 hx hb hB hown (hB _ m_887) hK hP d_M_order_35 ?_
      refine lv_iload_n hx hb d_M_order_38 rfl (lv_at hl 1 rfl) ?_
      obtain ⟨hi, h⟩ := ckb_some h
      obtain ⟨s3, es3, h⟩ := nm_some h
      refine Ms_19 es3 hx hb hK hP hD hS hi d_M_order_39 (fun H locs hP hD hS => ?_)
      refine lv_aload_n hx hb d_M_order_40 rfl (lv_at hl 0 rfl) ?_
      refine Mg_0_28 hx hb hB hown (hB _ m_889) hK hP d_M_order_41 ?_
      refine lv_aload_n hx hb d_M_order_44 rfl (lv_at hl 0 rfl) ?_
      refine Mg_0_26 hx hb hB hown (hB _ m_887) hK hP d_M_order_45 ?_
      refine lv_iload_n hx hb d_M_order_48 rfl (lv_at hl 2 rfl) ?_
      obtain ⟨hi, h⟩ := ckb_some h
      obtain ⟨s4, es4, h⟩ := nm_some h
      refine Ms_20 es4 hx hb hK hP hD hS hi d_M_order_49 (fun H locs hP hD hS => ?_)
      refine lv_aload_n hx hb d_M_order_50 rfl (lv_at hl 0 rfl) ?_
      refine lv_dup hx hb d_M_order_51 rfl ?_
      refine Mg_0_26 hx hb hB hown (hB _ m_887) hK hP d_M_order_52 ?_
      refine lv_iconst (v := (1 : Int32)) hx hb d_M_order_55 (by decide) ?_
      refine lv_iadd hx hb d_M_order_56 ?_
      obtain ⟨s5, es5, h⟩ := nm_some h
      refine Mp_0_26 es5 hx hb hB hown (hB _ m_887) hK hP hD hS d_M_order_57 (fun H locs hP hD hS => ?_)
      refine lv_aload_n hx hb d_M_order_60 rfl (lv_at hl 0 rfl) ?_
      refine Mg_0_26 hx hb hB hown (hB _ m_887) hK hP d_M_order_61 ?_
      exact rf_I (w := (fun z => wM g ca a z ++ tl)) h hx hb hr hlk hK hP hD hS d_M_order_64
    · replace h := it_t h hc
      refine lv_bipush (v := (-104 : Int32)) hx hb d_M_order_27 (by decide) ?_
      exact rf_I (w := (fun z => wM g ca a z ++ tl)) h hx hb hr hlk hK hP hD hS d_M_order_29
  · replace h := it_t h hc
    refine lv_bipush (v := (-101 : Int32)) hx hb d_M_order_16 (by decide) ?_
    exact rf_I (w := (fun z => wM g ca a z ++ tl)) h hx hb hr hlk hK hP hD hS d_M_order_18
set_option maxRecDepth 100000 in
set_option maxHeartbeats 4000000 in
theorem c_M_shape (l : Launch) (D : va_G) (ca : Nat → ClassId) (g : Bool) (a : Nat → Nat) (tl : va_W) (N : Nat) (σ σ' : St) (x1 : Int32) (x2 : Int32) (x3 : Int32) (r : Int32) (h : f_M_shape N σ x1 x2 x3 = some (r, σ')) : CtI l y_M_shape ws_M_shape rm_M_shape 0 0 D vCl (tyM ca) nwM [.ref (a 0), .int x1, .int x2, .int x3] (wM g ca a σ ++ tl) (wM g ca a σ' ++ tl) r := by
  refine en_I (ws' := BIG) (by decide +kernel) rfl (Nat.le_of_ble_eq_true rfl) ?_
  intro p e s m below meth c A ls R args H locs hR hx hb hr hlk hml hown hB hK hN hP hD hA hS hl
  have hl : lv_has ls 4 [(0, .ref (a 0)), (1, .int x1), (2, .int x2), (3, .int x3)] := hl
  unfold f_M_shape at h
  refine lv_iload_n hx hb d_M_shape_0 rfl (lv_at hl 2 rfl) ?_
  refine lv_i2l hx hb d_M_shape_1 rfl ?_
  refine lv_lconst (v := (0 : Int64)) hx hb d_M_shape_2 (by decide) ?_
  refine lv_ldc2 (v := (1000 : Int64)) hx hb hown (hB _ m_1113) d_M_shape_3 ?_
  obtain ⟨r1, s2, hr1, h⟩ := bd_some h
  refine go_SI (rest := []) ⟨hx, hb, hml, hown, hB⟩ nwM_ok (c_M_within l D ca g a tl N σ s2 (x2).toInt64 (0 : Int64) (1000 : Int64) r1 hr1) (cwx_S hB m_1032 kw_M_within ⟨by rw [hR]; decide, by rw [hR]; decide⟩ rfl rfl) hN hK hP hD hS hA rfl hl.1 rfl (Nat.le_of_ble_eq_true rfl) d_M_shape_6 ⟨by rw [hR]; exact Nat.le_of_ble_eq_true rfl, by rw [hR]; exact Nat.le_of_ble_eq_true rfl⟩ (fun H locs hP hD hS => ?_)
  refine lv_if_eq (tgt := 24) hx hb d_M_shape_9 (by decide) (fun hc => ?_) (fun hc => ?_)
  · replace h := it_t h hc
    refine lv_bipush (v := (-102 : Int32)) hx hb d_M_shape_24 (by decide) ?_
    exact rf_I (w := (fun z => wM g ca a z ++ tl)) h hx hb hr hlk hK hP hD hS d_M_shape_26
  · replace h := it_f h hc
    refine lv_iload_n hx hb d_M_shape_12 rfl (lv_at hl 3 rfl) ?_
    refine lv_i2l hx hb d_M_shape_13 rfl ?_
    refine lv_lconst (v := (0 : Int64)) hx hb d_M_shape_14 (by decide) ?_
    refine lv_ldc2 (v := (1000 : Int64)) hx hb hown (hB _ m_1113) d_M_shape_15 ?_
    obtain ⟨r3, s4, hr3, h⟩ := bd_some h
    refine go_SI (rest := []) ⟨hx, hb, hml, hown, hB⟩ nwM_ok (c_M_within l D ca g a tl N s2 s4 (x3).toInt64 (0 : Int64) (1000 : Int64) r3 hr3) (cwx_S hB m_1032 kw_M_within ⟨by rw [hR]; decide, by rw [hR]; decide⟩ rfl rfl) hN hK hP hD hS hA rfl hl.1 rfl (Nat.le_of_ble_eq_true rfl) d_M_shape_18 ⟨by rw [hR]; exact Nat.le_of_ble_eq_true rfl, by rw [hR]; exact Nat.le_of_ble_eq_true rfl⟩ (fun H locs hP hD hS => ?_)
    refine lv_if_ne (tgt := 27) hx hb d_M_shape_21 (by decide) (fun hc => ?_) (fun hc => ?_)
    · replace h := it_f h hc
      refine lv_aload_n hx hb d_M_shape_27 rfl (lv_at hl 0 rfl) ?_
      refine lv_iload_n hx hb d_M_shape_28 rfl (lv_at hl 1 rfl) ?_
      obtain ⟨hi, h⟩ := ckt_some h
      obtain ⟨s5, es5, h⟩ := nm_some h
      refine Mp_0_29 es5 hx hb hB hown (hB _ m_890) hK hP hD hS hi d_M_shape_29 (fun H locs hP hD hS => ?_)
      refine lv_aload_n hx hb d_M_shape_32 rfl (lv_at hl 0 rfl) ?_
      refine lv_iload_n hx hb d_M_shape_33 rfl (lv_at hl 2 rfl) ?_
      obtain ⟨s6, es6, h⟩ := nm_some h
      refine Mp_0_30 es6 hx hb hB hown (hB _ m_891) hK hP hD hS d_M_shape_34 (fun H locs hP hD hS => ?_)
      refine lv_aload_n hx hb d_M_shape_37 rfl (lv_at hl 0 rfl) ?_
      refine lv_iload_n hx hb d_M_shape_38 rfl (lv_at hl 3 rfl) ?_
      obtain ⟨s7, es7, h⟩ := nm_some h
      refine Mp_0_31 es7 hx hb hB hown (hB _ m_892) hK hP hD hS d_M_shape_39 (fun H locs hP hD hS => ?_)
      refine lv_iconst (v := (1 : Int32)) hx hb d_M_shape_42 (by decide) ?_
      exact rf_I (w := (fun z => wM g ca a z ++ tl)) h hx hb hr hlk hK hP hD hS d_M_shape_43
    · replace h := it_t h hc
      refine lv_bipush (v := (-102 : Int32)) hx hb d_M_shape_24 (by decide) ?_
      exact rf_I (w := (fun z => wM g ca a z ++ tl)) h hx hb hr hlk hK hP hD hS d_M_shape_26
set_option maxRecDepth 100000 in
set_option maxHeartbeats 4000000 in
theorem c_M_give (l : Launch) (D : va_G) (ca : Nat → ClassId) (g : Bool) (a : Nat → Nat) (tl : va_W) (N : Nat) (σ σ' : St) (x1 : Int64) (x3 : Int32) (h : f_M_give N σ x1 x3 = some ((), σ')) : CtV l y_M_give ws_M_give rm_M_give 0 0 D vCl (tyM ca) nwM [.ref (a 0), .long x1, .int x3] (wM g ca a σ ++ tl) (wM g ca a σ' ++ tl) := by
  refine en_V (ws' := BIG) (by decide +kernel) rfl (Nat.le_of_ble_eq_true rfl) ?_
  intro p e s m below meth c A ls R args H locs hR hx hb hr hlk hml hown hB hK hN hP hD hA hS hl
  have hl : lv_has ls 4 [(0, .ref (a 0)), (1, .long x1), (3, .int x3)] := hl
  unfold f_M_give at h
  refine lv_aload_n hx hb d_M_give_0 rfl (lv_at hl 0 rfl) ?_
  refine Mg_0_53 hx hb hB hown (hB _ m_914) hK hP d_M_give_1 ?_
  refine lv_aload_n hx hb d_M_give_4 rfl (lv_at hl 0 rfl) ?_
  refine Mg_0_52 hx hb hB hown (hB _ m_913) hK hP d_M_give_5 ?_
  refine lv_lload_n hx hb d_M_give_8 rfl (lv_at hl 1 rfl) ?_
  obtain ⟨hi, h⟩ := ckb_some h
  obtain ⟨s1, es1, h⟩ := nm_some h
  refine Ms_33 es1 hx hb hK hP hD hS hi d_M_give_9 (fun H locs hP hD hS => ?_)
  refine lv_aload_n hx hb d_M_give_10 rfl (lv_at hl 0 rfl) ?_
  refine Mg_0_54 hx hb hB hown (hB _ m_915) hK hP d_M_give_11 ?_
  refine lv_aload_n hx hb d_M_give_14 rfl (lv_at hl 0 rfl) ?_
  refine Mg_0_52 hx hb hB hown (hB _ m_913) hK hP d_M_give_15 ?_
  refine lv_iload_n hx hb d_M_give_18 rfl (lv_at hl 2 rfl) ?_
  obtain ⟨hi, h⟩ := ckb_some h
  obtain ⟨s2, es2, h⟩ := nm_some h
  refine Ms_34 es2 hx hb hK hP hD hS hi d_M_give_19 (fun H locs hP hD hS => ?_)
  refine lv_aload_n hx hb d_M_give_20 rfl (lv_at hl 0 rfl) ?_
  refine lv_dup hx hb d_M_give_21 rfl ?_
  refine Mg_0_52 hx hb hB hown (hB _ m_913) hK hP d_M_give_22 ?_
  refine lv_iconst (v := (1 : Int32)) hx hb d_M_give_25 (by decide) ?_
  refine lv_iadd hx hb d_M_give_26 ?_
  obtain ⟨s3, es3, h⟩ := nm_some h
  refine Mp_0_52 es3 hx hb hB hown (hB _ m_913) hK hP hD hS d_M_give_27 (fun H locs hP hD hS => ?_)
  exact rf_V (w := (fun z => wM g ca a z ++ tl)) h hx hb hr hlk hK hP hD hS d_M_give_30
set_option maxRecDepth 100000 in
set_option maxHeartbeats 4000000 in
theorem c_M_size (l : Launch) (D : va_G) (ca : Nat → ClassId) (g : Bool) (a : Nat → Nat) (tl : va_W) (N : Nat) (σ σ' : St) (x0 : Int64) (r : Int64) (h : f_M_size N σ x0 = some (r, σ')) : CtL l y_M_size ws_M_size rm_M_size 0 0 D vCl (tyM ca) nwM [.long x0] (wM g ca a σ ++ tl) (wM g ca a σ' ++ tl) r := by
  refine en_L (ws' := BIG) (by decide +kernel) rfl (Nat.le_of_ble_eq_true rfl) ?_
  intro p e s m below meth c A ls R args H locs hR hx hb hr hlk hml hown hB hK hN hP hD hA hS hl
  have hl : lv_has ls 2 [(0, .long x0)] := hl
  unfold f_M_size at h
  refine lv_lload_n hx hb d_M_size_0 rfl (lv_at hl 0 rfl) ?_
  refine lv_lconst (v := (0 : Int64)) hx hb d_M_size_1 (by decide) ?_
  refine W.lcmp hx hb d_M_size_2 ?_
  refine lv_if_ge (tgt := 11) hx hb d_M_size_3 (by decide) (fun hc => ?_) (fun hc => ?_)
  · replace h := it_t h hc
    refine lv_lload_n hx hb d_M_size_11 rfl (lv_at hl 0 rfl) ?_
    exact rf_L (w := (fun z => wM g ca a z ++ tl)) h hx hb hr hlk hK hP hD hS d_M_size_12
  · replace h := it_f h hc
    refine lv_lload_n hx hb d_M_size_6 rfl (lv_at hl 0 rfl) ?_
    refine lv_lneg hx hb d_M_size_7 ?_
    refine lv_goto (tgt := 12) hx hb d_M_size_8 (by decide) ?_
    exact rf_L (w := (fun z => wM g ca a z ++ tl)) h hx hb hr hlk hK hP hD hS d_M_size_12
set_option maxRecDepth 100000 in
set_option maxHeartbeats 4000000 in
theorem c_M_reckon (l : Launch) (D : va_G) (ca : Nat → ClassId) (g : Bool) (a : Nat → Nat) (tl : va_W) (N : Nat) (σ σ' : St) (x1 : Int32) (x2 : Int64) (x4 : Int64) (r : Int64) (h : f_M_reckon N σ x1 x2 x4 = some (r, σ')) : CtL l y_M_reckon ws_M_reckon rm_M_reckon 0 0 D vCl (tyM ca) nwM [.ref (a 0), .int x1, .long x2, .long x4] (wM g ca a σ ++ tl) (wM g ca a σ' ++ tl) r := by
  refine en_L (ws' := BIG) (by decide +kernel) rfl (Nat.le_of_ble_eq_true rfl) ?_
  intro p e s m below meth c A ls R args H locs hR hx hb hr hlk hml hown hB hK hN hP hD hA hS hl
  have hl : lv_has ls 8 [(0, .ref (a 0)), (1, .int x1), (2, .long x2), (4, .long x4)] := hl
  unfold f_M_reckon at h
  refine lv_iload_n hx hb d_M_reckon_0 rfl (lv_at hl 1 rfl) ?_
  refine lv_iconst (v := (3 : Int32)) hx hb d_M_reckon_1 (by decide) ?_
  have L20 : ∀ (σ : St) (x1 : Int32) (x2 : Int64) (x4 : Int64) (H : Heap) (locs : List Loc) (ls : Array Slot), va_P D vCl (wM g ca a σ ++ tl) H → va_D A (wM g ca a σ ++ tl) → va_S A s.heap H locs → lv_has ls 8 [(0, .ref (a 0)), (1, .int x1), (2, .long x2), (4, .long x4)] → f_M_reckon_20 N σ x1 x2 x4 = some (r, σ') → W p l e R s m args below meth c H locs 0 0 (MQ below (qb_QL D vCl (tyM ca) (wM g ca a σ' ++ tl) A r) args s 0 0 A) (F0 m 20 ls []) := by
    intro σ x1 x2 x4 H locs ls hP hD hS hl h
    unfold f_M_reckon_20 at h
    refine lv_iload_n hx hb d_M_reckon_20 rfl (lv_at hl 1 rfl) ?_
    refine lv_iconst (v := (2 : Int32)) hx hb d_M_reckon_21 (by decide) ?_
    refine lv_icmp_ne (tgt := 87) hx hb d_M_reckon_22 (by decide) (fun hc => ?_) (fun hc => ?_)
    · replace h := it_f h hc
      refine lv_iload_n hx hb d_M_reckon_87 rfl (lv_at hl 1 rfl) ?_
      have L126 : ∀ (σ : St) (t0 : Int64) (H : Heap) (locs : List Loc) (ls : Array Slot), va_P D vCl (wM g ca a σ ++ tl) H → va_D A (wM g ca a σ ++ tl) → va_S A s.heap H locs → lv_has ls 8 [(0, .ref (a 0))] → f_M_reckon_126 N σ t0 = some (r, σ') → W p l e R s m args below meth c H locs 0 0 (MQ below (qb_QL D vCl (tyM ca) (wM g ca a σ' ++ tl) A r) args s 0 0 A) (F0 m 126 ls [.long t0]) := by
        intro σ t0 H locs ls hP hD hS hl h
        unfold f_M_reckon_126 at h
        refine lv_lstore (lv' := [(6, .long t0), (0, .ref (a 0))]) hx hb d_M_reckon_126 hl (by decide) rfl (fun ls hl => ?_)
        refine lv_aload_n hx hb d_M_reckon_128 rfl (lv_at hl 1 rfl) ?_
        refine lv_lload hx hb d_M_reckon_129 (lv_at hl 0 rfl) ?_
        obtain ⟨r1, s2, hr1, h⟩ := bd_some h
        refine go_SL (rest := [.ref (a 0)]) ⟨hx, hb, hml, hown, hB⟩ nwM_ok (c_M_size l D ca g a tl N σ s2 t0 r1 hr1) (cwx_S hB m_1205 kw_M_size ⟨by rw [hR]; decide, by rw [hR]; decide⟩ rfl rfl) hN hK hP hD hS hA rfl hl.1 rfl (Nat.le_of_ble_eq_true rfl) d_M_reckon_131 ⟨by rw [hR]; exact Nat.le_of_ble_eq_true rfl, by rw [hR]; exact Nat.le_of_ble_eq_true rfl⟩ (fun H locs hP hD hS => ?_)
        refine lv_ldc2 (v := (1000000000000000 : Int64)) hx hb hown (hB _ m_1208) d_M_reckon_134 ?_
        refine W.lcmp hx hb d_M_reckon_137 ?_
        refine lv_if_le (tgt := 146) hx hb d_M_reckon_138 (by decide) (fun hc => ?_) (fun hc => ?_)
        · replace h := it_t h hc
          refine lv_aload_n hx hb d_M_reckon_146 rfl (lv_at hl 1 rfl) ?_
          refine Mg_0_36 hx hb hB hown (hB _ m_897) hK hP d_M_reckon_147 ?_
          obtain ⟨s3, es3, h⟩ := nm_some h
          refine Mp_0_36 es3 hx hb hB hown (hB _ m_897) hK hP hD hS d_M_reckon_150 (fun H locs hP hD hS => ?_)
          refine lv_lload hx hb d_M_reckon_153 (lv_at hl 0 rfl) ?_
          exact rf_L (w := (fun z => wM g ca a z ++ tl)) h hx hb hr hlk hK hP hD hS d_M_reckon_155
        · replace h := it_f h hc
          refine lv_bipush (v := (-21 : Int32)) hx hb d_M_reckon_141 (by decide) ?_
          refine lv_goto (tgt := 150) hx hb d_M_reckon_143 (by decide) ?_
          obtain ⟨s4, es4, h⟩ := nm_some h
          refine Mp_0_36 es4 hx hb hB hown (hB _ m_897) hK hP hD hS d_M_reckon_150 (fun H locs hP hD hS => ?_)
          refine lv_lload hx hb d_M_reckon_153 (lv_at hl 0 rfl) ?_
          exact rf_L (w := (fun z => wM g ca a z ++ tl)) h hx hb hr hlk hK hP hD hS d_M_reckon_155
      refine lv_if_ne (tgt := 98) hx hb d_M_reckon_88 (by decide) (fun hc => ?_) (fun hc => ?_)
      · replace h := it_f h hc
        refine lv_iload_n hx hb d_M_reckon_98 rfl (lv_at hl 1 rfl) ?_
        refine lv_iconst (v := (1 : Int32)) hx hb d_M_reckon_99 (by decide) ?_
        refine lv_icmp_ne (tgt := 110) hx hb d_M_reckon_100 (by decide) (fun hc => ?_) (fun hc => ?_)
        · replace h := it_f h hc
          refine lv_iload_n hx hb d_M_reckon_110 rfl (lv_at hl 1 rfl) ?_
          refine lv_iconst (v := (3 : Int32)) hx hb d_M_reckon_111 (by decide) ?_
          refine lv_icmp_ne (tgt := 122) hx hb d_M_reckon_112 (by decide) (fun hc => ?_) (fun hc => ?_)
          · replace h := it_f h hc
            refine lv_lload_n hx hb d_M_reckon_122 rfl (lv_at hl 2 rfl) ?_
            refine lv_lload hx hb d_M_reckon_123 (lv_at hl 3 rfl) ?_
            obtain ⟨hi, h⟩ := ckzl_some h
            refine lv_lrem hx hb d_M_reckon_125 hi ?_
            exact L126 σ (x2 - x2 / x4 * x4) H locs ls hP hD hS (lv_sub hl [0] rfl) h
          · replace h := it_t h hc
            refine lv_lload_n hx hb d_M_reckon_115 rfl (lv_at hl 2 rfl) ?_
            refine lv_lload hx hb d_M_reckon_116 (lv_at hl 3 rfl) ?_
            obtain ⟨hi, h⟩ := ckzl_some h
            refine lv_ldiv hx hb d_M_reckon_118 hi ?_
            refine lv_goto (tgt := 126) hx hb d_M_reckon_119 (by decide) ?_
            exact L126 σ (x2 / x4) H locs ls hP hD hS (lv_sub hl [0] rfl) h
        · replace h := it_t h hc
          refine lv_lload_n hx hb d_M_reckon_103 rfl (lv_at hl 2 rfl) ?_
          refine lv_lload hx hb d_M_reckon_104 (lv_at hl 3 rfl) ?_
          refine lv_lsub hx hb d_M_reckon_106 ?_
          refine lv_goto (tgt := 126) hx hb d_M_reckon_107 (by decide) ?_
          exact L126 σ (x2 - x4) H locs ls hP hD hS (lv_sub hl [0] rfl) h
      · replace h := it_t h hc
        refine lv_lload_n hx hb d_M_reckon_91 rfl (lv_at hl 2 rfl) ?_
        refine lv_lload hx hb d_M_reckon_92 (lv_at hl 3 rfl) ?_
        refine lv_ladd hx hb d_M_reckon_94 ?_
        refine lv_goto (tgt := 126) hx hb d_M_reckon_95 (by decide) ?_
        exact L126 σ (x2 + x4) H locs ls hP hD hS (lv_sub hl [0] rfl) h
    · replace h := it_t h hc
      refine lv_lload_n hx hb d_M_reckon_25 rfl (lv_at hl 2 rfl) ?_
      refine lv_lconst (v := (0 : Int64)) hx hb d_M_reckon_26 (by decide) ?_
      refine W.lcmp hx hb d_M_reckon_27 ?_
      have L53 : ∀ (σ : St) (x2 : Int64) (x4 : Int64) (t0 : Int32) (H : Heap) (locs : List Loc) (ls : Array Slot), va_P D vCl (wM g ca a σ ++ tl) H → va_D A (wM g ca a σ ++ tl) → va_S A s.heap H locs → lv_has ls 8 [(0, .ref (a 0)), (2, .long x2), (4, .long x4)] → f_M_reckon_53 N σ x2 x4 t0 = some (r, σ') → W p l e R s m args below meth c H locs 0 0 (MQ below (qb_QL D vCl (tyM ca) (wM g ca a σ' ++ tl) A r) args s 0 0 A) (F0 m 53 ls [.int t0]) := by
        intro σ x2 x4 t0 H locs ls hP hD hS hl h
        unfold f_M_reckon_53 at h
        refine lv_istore (lv' := [(6, .int t0), (0, .ref (a 0)), (2, .long x2), (4, .long x4)]) hx hb d_M_reckon_53 hl (by decide) rfl (fun ls hl => ?_)
        refine lv_aload_n hx hb d_M_reckon_55 rfl (lv_at hl 1 rfl) ?_
        refine lv_iload hx hb d_M_reckon_56 (lv_at hl 0 rfl) ?_
        have L70 : ∀ (σ : St) (x2 : Int64) (x4 : Int64) (x6 : Int32) (t0 : Int32) (H : Heap) (locs : List Loc) (ls : Array Slot), va_P D vCl (wM g ca a σ ++ tl) H → va_D A (wM g ca a σ ++ tl) → va_S A s.heap H locs → lv_has ls 8 [(2, .long x2), (4, .long x4), (6, .int x6)] → f_M_reckon_70 N σ x2 x4 x6 t0 = some (r, σ') → W p l e R s m args below meth c H locs 0 0 (MQ below (qb_QL D vCl (tyM ca) (wM g ca a σ' ++ tl) A r) args s 0 0 A) (F0 m 70 ls [.int t0, .ref (a 0)]) := by
          intro σ x2 x4 x6 t0 H locs ls hP hD hS hl h
          unfold f_M_reckon_70 at h
          obtain ⟨s5, es5, h⟩ := nm_some h
          refine Mp_0_36 es5 hx hb hB hown (hB _ m_897) hK hP hD hS d_M_reckon_70 (fun H locs hP hD hS => ?_)
          refine lv_iload hx hb d_M_reckon_73 (lv_at hl 2 rfl) ?_
          refine lv_if_eq (tgt := 82) hx hb d_M_reckon_75 (by decide) (fun hc => ?_) (fun hc => ?_)
          · replace h := it_t h hc
            refine lv_lload_n hx hb d_M_reckon_82 rfl (lv_at hl 0 rfl) ?_
            refine lv_lload hx hb d_M_reckon_83 (lv_at hl 1 rfl) ?_
            refine lv_lmul hx hb d_M_reckon_85 ?_
            exact rf_L (w := (fun z => wM g ca a z ++ tl)) h hx hb hr hlk hK hP hD hS d_M_reckon_86
          · replace h := it_f h hc
            refine lv_lconst (v := (0 : Int64)) hx hb d_M_reckon_78 (by decide) ?_
            refine lv_goto (tgt := 86) hx hb d_M_reckon_79 (by decide) ?_
            exact rf_L (w := (fun z => wM g ca a z ++ tl)) h hx hb hr hlk hK hP hD hS d_M_reckon_86
        refine lv_if_eq (tgt := 66) hx hb d_M_reckon_58 (by decide) (fun hc => ?_) (fun hc => ?_)
        · replace h := it_t h hc
          refine lv_aload_n hx hb d_M_reckon_66 rfl (lv_at hl 1 rfl) ?_
          refine Mg_0_36 hx hb hB hown (hB _ m_897) hK hP d_M_reckon_67 ?_
          exact L70 σ x2 x4 t0 (gi σ 14) H locs ls hP hD hS (lv_sub hl [2, 3, 0] rfl) h
        · replace h := it_f h hc
          refine lv_bipush (v := (-21 : Int32)) hx hb d_M_reckon_61 (by decide) ?_
          refine lv_goto (tgt := 70) hx hb d_M_reckon_63 (by decide) ?_
          exact L70 σ x2 x4 t0 (-21 : Int32) H locs ls hP hD hS (lv_sub hl [2, 3, 0] rfl) h
      have L52 : ∀ (σ : St) (x2 : Int64) (x4 : Int64) (H : Heap) (locs : List Loc) (ls : Array Slot), va_P D vCl (wM g ca a σ ++ tl) H → va_D A (wM g ca a σ ++ tl) → va_S A s.heap H locs → lv_has ls 8 [(0, .ref (a 0)), (2, .long x2), (4, .long x4)] → f_M_reckon_52 N σ x2 x4 = some (r, σ') → W p l e R s m args below meth c H locs 0 0 (MQ below (qb_QL D vCl (tyM ca) (wM g ca a σ' ++ tl) A r) args s 0 0 A) (F0 m 52 ls []) := by
        intro σ x2 x4 H locs ls hP hD hS hl h
        unfold f_M_reckon_52 at h
        refine lv_iconst (v := (0 : Int32)) hx hb d_M_reckon_52 (by decide) ?_
        exact L53 σ x2 x4 (0 : Int32) H locs ls hP hD hS (lv_sub hl [0, 1, 2] rfl) h
      refine lv_if_eq (tgt := 52) hx hb d_M_reckon_28 (by decide) (fun hc => ?_) (fun hc => ?_)
      · replace h := it_t h hc
        exact L52 σ x2 x4 H locs ls hP hD hS (lv_sub hl [0, 2, 3] rfl) h
      · replace h := it_f h hc
        refine lv_lload hx hb d_M_reckon_31 (lv_at hl 3 rfl) ?_
        obtain ⟨r6, s7, hr6, h⟩ := bd_some h
        refine go_SL (rest := []) ⟨hx, hb, hml, hown, hB⟩ nwM_ok (c_M_size l D ca g a tl N σ s7 x4 r6 hr6) (cwx_S hB m_1205 kw_M_size ⟨by rw [hR]; decide, by rw [hR]; decide⟩ rfl rfl) hN hK hP hD hS hA rfl hl.1 rfl (Nat.le_of_ble_eq_true rfl) d_M_reckon_33 ⟨by rw [hR]; exact Nat.le_of_ble_eq_true rfl, by rw [hR]; exact Nat.le_of_ble_eq_true rfl⟩ (fun H locs hP hD hS => ?_)
        refine lv_ldc2 (v := (1000000000000000 : Int64)) hx hb hown (hB _ m_1208) d_M_reckon_36 ?_
        refine lv_lload_n hx hb d_M_reckon_39 rfl (lv_at hl 2 rfl) ?_
        obtain ⟨r8, s9, hr8, h⟩ := bd_some h
        refine go_SL (rest := [.long (1000000000000000 : Int64), .long r6]) ⟨hx, hb, hml, hown, hB⟩ nwM_ok (c_M_size l D ca g a tl N s7 s9 x2 r8 hr8) (cwx_S hB m_1205 kw_M_size ⟨by rw [hR]; decide, by rw [hR]; decide⟩ rfl rfl) hN hK hP hD hS hA rfl hl.1 rfl (Nat.le_of_ble_eq_true rfl) d_M_reckon_40 ⟨by rw [hR]; exact Nat.le_of_ble_eq_true rfl, by rw [hR]; exact Nat.le_of_ble_eq_true rfl⟩ (fun H locs hP hD hS => ?_)
        obtain ⟨hi, h⟩ := ckzl_some h
        refine lv_ldiv hx hb d_M_reckon_43 hi ?_
        refine W.lcmp hx hb d_M_reckon_44 ?_
        refine lv_if_le (tgt := 52) hx hb d_M_reckon_45 (by decide) (fun hc => ?_) (fun hc => ?_)
        · replace h := it_t h hc
          exact L52 s9 x2 x4 H locs ls hP hD hS (lv_sub hl [0, 2, 3] rfl) h
        · replace h := it_f h hc
          refine lv_iconst (v := (1 : Int32)) hx hb d_M_reckon_48 (by decide) ?_
          refine lv_goto (tgt := 53) hx hb d_M_reckon_49 (by decide) ?_
          exact L53 s9 x2 x4 (1 : Int32) H locs ls hP hD hS (lv_sub hl [0, 2, 3] rfl) h
  refine lv_icmp_lt (tgt := 20) hx hb d_M_reckon_2 (by decide) (fun hc => ?_) (fun hc => ?_)
  · replace h := it_t h hc
    exact L20 σ x1 x2 x4 H locs ls hP hD hS (lv_sub hl [0, 1, 2, 3] rfl) h
  · replace h := it_f h hc
    refine lv_lload hx hb d_M_reckon_5 (lv_at hl 3 rfl) ?_
    refine lv_lconst (v := (0 : Int64)) hx hb d_M_reckon_7 (by decide) ?_
    refine W.lcmp hx hb d_M_reckon_8 ?_
    refine lv_if_ne (tgt := 20) hx hb d_M_reckon_9 (by decide) (fun hc => ?_) (fun hc => ?_)
    · replace h := it_f h hc
      exact L20 σ x1 x2 x4 H locs ls hP hD hS (lv_sub hl [0, 1, 2, 3] rfl) h
    · replace h := it_t h hc
      refine lv_aload_n hx hb d_M_reckon_12 rfl (lv_at hl 0 rfl) ?_
      refine lv_bipush (v := (-20 : Int32)) hx hb d_M_reckon_13 (by decide) ?_
      obtain ⟨s10, es10, h⟩ := nm_some h
      refine Mp_0_36 es10 hx hb hB hown (hB _ m_897) hK hP hD hS d_M_reckon_15 (fun H locs hP hD hS => ?_)
      refine lv_lconst (v := (0 : Int64)) hx hb d_M_reckon_18 (by decide) ?_
      exact rf_L (w := (fun z => wM g ca a z ++ tl)) h hx hb hr hlk hK hP hD hS d_M_reckon_19
set_option maxRecDepth 100000 in
set_option maxHeartbeats 4000000 in
theorem c_M_truthOf (l : Launch) (D : va_G) (ca : Nat → ClassId) (g : Bool) (a : Nat → Nat) (tl : va_W) (N : Nat) (σ σ' : St) (x0 : Int32) (r : Int64) (h : f_M_truthOf N σ x0 = some (r, σ')) : CtL l y_M_truthOf ws_M_truthOf rm_M_truthOf 0 0 D vCl (tyM ca) nwM [.int x0] (wM g ca a σ ++ tl) (wM g ca a σ' ++ tl) r := by
  refine en_L (ws' := BIG) (by decide +kernel) rfl (Nat.le_of_ble_eq_true rfl) ?_
  intro p e s m below meth c A ls R args H locs hR hx hb hr hlk hml hown hB hK hN hP hD hA hS hl
  have hl : lv_has ls 1 [(0, .int x0)] := hl
  unfold f_M_truthOf at h
  refine lv_iload_n hx hb d_M_truthOf_0 rfl (lv_at hl 0 rfl) ?_
  refine lv_if_eq (tgt := 8) hx hb d_M_truthOf_1 (by decide) (fun hc => ?_) (fun hc => ?_)
  · replace h := it_t h hc
    refine lv_lconst (v := (0 : Int64)) hx hb d_M_truthOf_8 (by decide) ?_
    exact rf_L (w := (fun z => wM g ca a z ++ tl)) h hx hb hr hlk hK hP hD hS d_M_truthOf_9
  · replace h := it_f h hc
    refine lv_lconst (v := (1 : Int64)) hx hb d_M_truthOf_4 (by decide) ?_
    refine lv_goto (tgt := 9) hx hb d_M_truthOf_5 (by decide) ?_
    exact rf_L (w := (fun z => wM g ca a z ++ tl)) h hx hb hr hlk hK hP hD hS d_M_truthOf_9
set_option maxRecDepth 100000 in
set_option maxHeartbeats 4000000 in
theorem c_M_combine (l : Launch) (D : va_G) (ca : Nat → ClassId) (g : Bool) (a : Nat → Nat) (tl : va_W) (N : Nat) (σ σ' : St) (x1 : Int32) (h : f_M_combine N σ x1 = some ((), σ')) : CtV l y_M_combine ws_M_combine rm_M_combine 0 0 D vCl (tyM ca) nwM [.ref (a 0), .int x1] (wM g ca a σ ++ tl) (wM g ca a σ' ++ tl) := by
  refine en_V (ws' := BIG) (by decide +kernel) rfl (Nat.le_of_ble_eq_true rfl) ?_
  intro p e s m below meth c A ls R args H locs hR hx hb hr hlk hml hown hB hK hN hP hD hA hS hl
  have hl : lv_has ls 8 [(0, .ref (a 0)), (1, .int x1)] := hl
  unfold f_M_combine at h
  refine lv_aload_n hx hb d_M_combine_0 rfl (lv_at hl 0 rfl) ?_
  refine lv_dup hx hb d_M_combine_1 rfl ?_
  refine Mg_0_52 hx hb hB hown (hB _ m_913) hK hP d_M_combine_2 ?_
  refine lv_iconst (v := (2 : Int32)) hx hb d_M_combine_5 (by decide) ?_
  refine lv_isub hx hb d_M_combine_6 ?_
  obtain ⟨s1, es1, h⟩ := nm_some h
  refine Mp_0_52 es1 hx hb hB hown (hB _ m_913) hK hP hD hS d_M_combine_7 (fun H locs hP hD hS => ?_)
  refine lv_aload_n hx hb d_M_combine_10 rfl (lv_at hl 0 rfl) ?_
  refine Mg_0_53 hx hb hB hown (hB _ m_914) hK hP d_M_combine_11 ?_
  refine lv_aload_n hx hb d_M_combine_14 rfl (lv_at hl 0 rfl) ?_
  refine Mg_0_52 hx hb hB hown (hB _ m_913) hK hP d_M_combine_15 ?_
  obtain ⟨hi, h⟩ := ckb_some h
  refine Ma_33 hx hb hK hP hi d_M_combine_18 ?_
  refine lv_lstore_n (lv' := [(2, .long (gb s1 6 ((gi s1 20)).toNatClampNeg)), (0, .ref (a 0)), (1, .int x1)]) hx hb d_M_combine_19 rfl hl (by decide) rfl (fun ls hl => ?_)
  refine lv_aload_n hx hb d_M_combine_20 rfl (lv_at hl 1 rfl) ?_
  refine Mg_0_53 hx hb hB hown (hB _ m_914) hK hP d_M_combine_21 ?_
  refine lv_aload_n hx hb d_M_combine_24 rfl (lv_at hl 1 rfl) ?_
  refine Mg_0_52 hx hb hB hown (hB _ m_913) hK hP d_M_combine_25 ?_
  refine lv_iconst (v := (1 : Int32)) hx hb d_M_combine_28 (by decide) ?_
  refine lv_iadd hx hb d_M_combine_29 ?_
  obtain ⟨hi, h⟩ := ckb_some h
  refine Ma_33 hx hb hK hP hi d_M_combine_30 ?_
  refine lv_lstore (lv' := [(4, .long (gb s1 6 (((gi s1 20) + (1 : Int32))).toNatClampNeg)), (2, .long (gb s1 6 ((gi s1 20)).toNatClampNeg)), (0, .ref (a 0)), (1, .int x1)]) hx hb d_M_combine_31 hl (by decide) rfl (fun ls hl => ?_)
  refine lv_aload_n hx hb d_M_combine_33 rfl (lv_at hl 2 rfl) ?_
  refine Mg_0_54 hx hb hB hown (hB _ m_915) hK hP d_M_combine_34 ?_
  refine lv_aload_n hx hb d_M_combine_37 rfl (lv_at hl 2 rfl) ?_
  refine Mg_0_52 hx hb hB hown (hB _ m_913) hK hP d_M_combine_38 ?_
  obtain ⟨hi, h⟩ := ckb_some h
  refine Ma_34 hx hb hK hP hi d_M_combine_41 ?_
  have L64 : ∀ (σ : St) (x1 : Int32) (x2 : Int64) (x4 : Int64) (t0 : Int32) (H : Heap) (locs : List Loc) (ls : Array Slot), va_P D vCl (wM g ca a σ ++ tl) H → va_D A (wM g ca a σ ++ tl) → va_S A s.heap H locs → lv_has ls 8 [(0, .ref (a 0)), (1, .int x1), (2, .long x2), (4, .long x4)] → f_M_combine_64 N σ x1 x2 x4 t0 = some ((), σ') → W p l e R s m args below meth c H locs 0 0 (MQ below (qb_QV D vCl (tyM ca) (wM g ca a σ' ++ tl) A) args s 0 0 A) (F0 m 64 ls [.int t0]) := by
    intro σ x1 x2 x4 t0 H locs ls hP hD hS hl h
    unfold f_M_combine_64 at h
    refine lv_istore (lv' := [(6, .int t0), (0, .ref (a 0)), (1, .int x1), (2, .long x2), (4, .long x4)]) hx hb d_M_combine_64 hl (by decide) rfl (fun ls hl => ?_)
    refine lv_iload_n hx hb d_M_combine_66 rfl (lv_at hl 2 rfl) ?_
    refine lv_bipush (v := (9 : Int32)) hx hb d_M_combine_67 (by decide) ?_
    refine lv_icmp_ne (tgt := 117) hx hb d_M_combine_69 (by decide) (fun hc => ?_) (fun hc => ?_)
    · replace h := it_f h hc
      refine lv_iload_n hx hb d_M_combine_117 rfl (lv_at hl 2 rfl) ?_
      refine lv_bipush (v := (10 : Int32)) hx hb d_M_combine_118 (by decide) ?_
      refine lv_icmp_ne (tgt := 168) hx hb d_M_combine_120 (by decide) (fun hc => ?_) (fun hc => ?_)
      · replace h := it_f h hc
        refine lv_iload_n hx hb d_M_combine_168 rfl (lv_at hl 2 rfl) ?_
        refine lv_iconst (v := (5 : Int32)) hx hb d_M_combine_169 (by decide) ?_
        refine lv_icmp_lt (tgt := 273) hx hb d_M_combine_170 (by decide) (fun hc => ?_) (fun hc => ?_)
        · replace h := it_t h hc
          refine lv_aload_n hx hb d_M_combine_273 rfl (lv_at hl 1 rfl) ?_
          refine lv_iload hx hb d_M_combine_274 (lv_at hl 0 rfl) ?_
          have L291 : ∀ (σ : St) (x6 : Int32) (t0 : Int64) (H : Heap) (locs : List Loc) (ls : Array Slot), va_P D vCl (wM g ca a σ ++ tl) H → va_D A (wM g ca a σ ++ tl) → va_S A s.heap H locs → lv_has ls 8 [(6, .int x6)] → f_M_combine_291 N σ x6 t0 = some ((), σ') → W p l e R s m args below meth c H locs 0 0 (MQ below (qb_QV D vCl (tyM ca) (wM g ca a σ' ++ tl) A) args s 0 0 A) (F0 m 291 ls [.long t0, .ref (a 0)]) := by
            intro σ x6 t0 H locs ls hP hD hS hl h
            unfold f_M_combine_291 at h
            refine lv_iload hx hb d_M_combine_291 (lv_at hl 0 rfl) ?_
            obtain ⟨r2, s3, hr2, h⟩ := bd_some h
            cases r2
            refine go_VV (rest := []) ⟨hx, hb, hml, hown, hB⟩ nwM_ok (c_M_give l D ca g a tl N σ s3 t0 x6 hr2) (cwx_V hB m_1174 kw_M_give ⟨by rw [hR]; decide, by rw [hR]; decide⟩ rfl rfl) (va_recv hK hP (ci := 1) (q0 := 0) rfl rfl) hN hK hP hD hS hA rfl hl.1 rfl (Nat.le_of_ble_eq_true rfl) d_M_combine_293 ⟨by rw [hR]; exact Nat.le_of_ble_eq_true rfl, by rw [hR]; exact Nat.le_of_ble_eq_true rfl⟩ (fun H locs hP hD hS => ?_)
            exact rf_V (w := (fun z => wM g ca a z ++ tl)) h hx hb hr hlk hK hP hD hS d_M_combine_296
          refine lv_if_eq (tgt := 283) hx hb d_M_combine_276 (by decide) (fun hc => ?_) (fun hc => ?_)
          · replace h := it_t h hc
            refine lv_aload_n hx hb d_M_combine_283 rfl (lv_at hl 1 rfl) ?_
            refine lv_iload_n hx hb d_M_combine_284 rfl (lv_at hl 2 rfl) ?_
            refine lv_lload_n hx hb d_M_combine_285 rfl (lv_at hl 3 rfl) ?_
            refine lv_lload hx hb d_M_combine_286 (lv_at hl 4 rfl) ?_
            obtain ⟨r4, s5, hr4, h⟩ := bd_some h
            refine go_VL (rest := [.ref (a 0)]) ⟨hx, hb, hml, hown, hB⟩ nwM_ok (c_M_reckon l D ca g a tl N σ s5 x1 x2 x4 r4 hr4) (cwx_V hB m_1201 kw_M_reckon ⟨by rw [hR]; decide, by rw [hR]; decide⟩ rfl rfl) (va_recv hK hP (ci := 1) (q0 := 0) rfl rfl) hN hK hP hD hS hA rfl hl.1 rfl (Nat.le_of_ble_eq_true rfl) d_M_combine_288 ⟨by rw [hR]; exact Nat.le_of_ble_eq_true rfl, by rw [hR]; exact Nat.le_of_ble_eq_true rfl⟩ (fun H locs hP hD hS => ?_)
            exact L291 s5 t0 r4 H locs ls hP hD hS (lv_sub hl [0] rfl) h
          · replace h := it_f h hc
            refine lv_lconst (v := (0 : Int64)) hx hb d_M_combine_279 (by decide) ?_
            refine lv_goto (tgt := 291) hx hb d_M_combine_280 (by decide) ?_
            exact L291 σ t0 (0 : Int64) H locs ls hP hD hS (lv_sub hl [0] rfl) h
        · replace h := it_f h hc
          refine lv_iload_n hx hb d_M_combine_173 rfl (lv_at hl 2 rfl) ?_
          refine lv_iconst (v := (5 : Int32)) hx hb d_M_combine_174 (by decide) ?_
          have L247 : ∀ (σ : St) (x6 : Int32) (t0 : Int32) (H : Heap) (locs : List Loc) (ls : Array Slot), va_P D vCl (wM g ca a σ ++ tl) H → va_D A (wM g ca a σ ++ tl) → va_S A s.heap H locs → lv_has ls 8 [(0, .ref (a 0)), (6, .int x6)] → f_M_combine_247 N σ x6 t0 = some ((), σ') → W p l e R s m args below meth c H locs 0 0 (MQ below (qb_QV D vCl (tyM ca) (wM g ca a σ' ++ tl) A) args s 0 0 A) (F0 m 247 ls [.int t0]) := by
            intro σ x6 t0 H locs ls hP hD hS hl h
            unfold f_M_combine_247 at h
            refine lv_istore (lv' := [(7, .int t0), (0, .ref (a 0)), (6, .int x6)]) hx hb d_M_combine_247 hl (by decide) rfl (fun ls hl => ?_)
            refine lv_aload_n hx hb d_M_combine_249 rfl (lv_at hl 1 rfl) ?_
            refine lv_iload hx hb d_M_combine_250 (lv_at hl 2 rfl) ?_
            have L266 : ∀ (σ : St) (t0 : Int64) (H : Heap) (locs : List Loc) (ls : Array Slot), va_P D vCl (wM g ca a σ ++ tl) H → va_D A (wM g ca a σ ++ tl) → va_S A s.heap H locs → lv_has ls 8 [] → f_M_combine_266 N σ t0 = some ((), σ') → W p l e R s m args below meth c H locs 0 0 (MQ below (qb_QV D vCl (tyM ca) (wM g ca a σ' ++ tl) A) args s 0 0 A) (F0 m 266 ls [.long t0, .ref (a 0)]) := by
              intro σ t0 H locs ls hP hD hS hl h
              unfold f_M_combine_266 at h
              refine lv_iconst (v := (0 : Int32)) hx hb d_M_combine_266 (by decide) ?_
              obtain ⟨r6, s7, hr6, h⟩ := bd_some h
              cases r6
              refine go_VV (rest := []) ⟨hx, hb, hml, hown, hB⟩ nwM_ok (c_M_give l D ca g a tl N σ s7 t0 (0 : Int32) hr6) (cwx_V hB m_1174 kw_M_give ⟨by rw [hR]; decide, by rw [hR]; decide⟩ rfl rfl) (va_recv hK hP (ci := 1) (q0 := 0) rfl rfl) hN hK hP hD hS hA rfl hl.1 rfl (Nat.le_of_ble_eq_true rfl) d_M_combine_267 ⟨by rw [hR]; exact Nat.le_of_ble_eq_true rfl, by rw [hR]; exact Nat.le_of_ble_eq_true rfl⟩ (fun H locs hP hD hS => ?_)
              refine lv_goto (tgt := 296) hx hb d_M_combine_270 (by decide) ?_
              exact rf_V (w := (fun z => wM g ca a z ++ tl)) h hx hb hr hlk hK hP hD hS d_M_combine_296
            refine lv_if_eq (tgt := 261) hx hb d_M_combine_252 (by decide) (fun hc => ?_) (fun hc => ?_)
            · replace h := it_t h hc
              refine lv_iload hx hb d_M_combine_261 (lv_at hl 0 rfl) ?_
              obtain ⟨r8, s9, hr8, h⟩ := bd_some h
              refine go_SL (rest := [.ref (a 0)]) ⟨hx, hb, hml, hown, hB⟩ nwM_ok (c_M_truthOf l D ca g a tl N σ s9 t0 r8 hr8) (cwx_S hB m_1194 kw_M_truthOf ⟨by rw [hR]; decide, by rw [hR]; decide⟩ rfl rfl) hN hK hP hD hS hA rfl hl.1 rfl (Nat.le_of_ble_eq_true rfl) d_M_combine_263 ⟨by rw [hR]; exact Nat.le_of_ble_eq_true rfl, by rw [hR]; exact Nat.le_of_ble_eq_true rfl⟩ (fun H locs hP hD hS => ?_)
              exact L266 s9 r8 H locs ls hP hD hS (lv_sub hl [] rfl) h
            · replace h := it_f h hc
              refine lv_ldc2 (v := (2 : Int64)) hx hb hown (hB _ m_1065) d_M_combine_255 ?_
              refine lv_goto (tgt := 266) hx hb d_M_combine_258 (by decide) ?_
              exact L266 σ (2 : Int64) H locs ls hP hD hS (lv_sub hl [] rfl) h
          refine lv_icmp_ne (tgt := 193) hx hb d_M_combine_175 (by decide) (fun hc => ?_) (fun hc => ?_)
          · replace h := it_f h hc
            refine lv_iload_n hx hb d_M_combine_193 rfl (lv_at hl 2 rfl) ?_
            refine lv_bipush (v := (6 : Int32)) hx hb d_M_combine_194 (by decide) ?_
            refine lv_icmp_ne (tgt := 214) hx hb d_M_combine_196 (by decide) (fun hc => ?_) (fun hc => ?_)
            · replace h := it_f h hc
              refine lv_iload_n hx hb d_M_combine_214 rfl (lv_at hl 2 rfl) ?_
              refine lv_bipush (v := (7 : Int32)) hx hb d_M_combine_215 (by decide) ?_
              refine lv_icmp_ne (tgt := 235) hx hb d_M_combine_217 (by decide) (fun hc => ?_) (fun hc => ?_)
              · replace h := it_f h hc
                refine lv_lload_n hx hb d_M_combine_235 rfl (lv_at hl 3 rfl) ?_
                refine lv_lload hx hb d_M_combine_236 (lv_at hl 4 rfl) ?_
                refine W.lcmp hx hb d_M_combine_238 ?_
                refine lv_if_gt (tgt := 246) hx hb d_M_combine_239 (by decide) (fun hc => ?_) (fun hc => ?_)
                · replace h := it_t h hc
                  refine lv_iconst (v := (0 : Int32)) hx hb d_M_combine_246 (by decide) ?_
                  exact L247 σ t0 (0 : Int32) H locs ls hP hD hS (lv_sub hl [1, 0] rfl) h
                · replace h := it_f h hc
                  refine lv_iconst (v := (1 : Int32)) hx hb d_M_combine_242 (by decide) ?_
                  refine lv_goto (tgt := 247) hx hb d_M_combine_243 (by decide) ?_
                  exact L247 σ t0 (1 : Int32) H locs ls hP hD hS (lv_sub hl [1, 0] rfl) h
              · replace h := it_t h hc
                refine lv_lload_n hx hb d_M_combine_220 rfl (lv_at hl 3 rfl) ?_
                refine lv_lload hx hb d_M_combine_221 (lv_at hl 4 rfl) ?_
                refine W.lcmp hx hb d_M_combine_223 ?_
                refine lv_if_ge (tgt := 231) hx hb d_M_combine_224 (by decide) (fun hc => ?_) (fun hc => ?_)
                · replace h := it_t h hc
                  refine lv_iconst (v := (0 : Int32)) hx hb d_M_combine_231 (by decide) ?_
                  refine lv_goto (tgt := 247) hx hb d_M_combine_232 (by decide) ?_
                  exact L247 σ t0 (0 : Int32) H locs ls hP hD hS (lv_sub hl [1, 0] rfl) h
                · replace h := it_f h hc
                  refine lv_iconst (v := (1 : Int32)) hx hb d_M_combine_227 (by decide) ?_
                  refine lv_goto (tgt := 247) hx hb d_M_combine_228 (by decide) ?_
                  exact L247 σ t0 (1 : Int32) H locs ls hP hD hS (lv_sub hl [1, 0] rfl) h
            · replace h := it_t h hc
              refine lv_lload_n hx hb d_M_combine_199 rfl (lv_at hl 3 rfl) ?_
              refine lv_lload hx hb d_M_combine_200 (lv_at hl 4 rfl) ?_
              refine W.lcmp hx hb d_M_combine_202 ?_
              refine lv_if_eq (tgt := 210) hx hb d_M_combine_203 (by decide) (fun hc => ?_) (fun hc => ?_)
              · replace h := it_t h hc
                refine lv_iconst (v := (0 : Int32)) hx hb d_M_combine_210 (by decide) ?_
                refine lv_goto (tgt := 247) hx hb d_M_combine_211 (by decide) ?_
                exact L247 σ t0 (0 : Int32) H locs ls hP hD hS (lv_sub hl [1, 0] rfl) h
              · replace h := it_f h hc
                refine lv_iconst (v := (1 : Int32)) hx hb d_M_combine_206 (by decide) ?_
                refine lv_goto (tgt := 247) hx hb d_M_combine_207 (by decide) ?_
                exact L247 σ t0 (1 : Int32) H locs ls hP hD hS (lv_sub hl [1, 0] rfl) h
          · replace h := it_t h hc
            refine lv_lload_n hx hb d_M_combine_178 rfl (lv_at hl 3 rfl) ?_
            refine lv_lload hx hb d_M_combine_179 (lv_at hl 4 rfl) ?_
            refine W.lcmp hx hb d_M_combine_181 ?_
            refine lv_if_ne (tgt := 189) hx hb d_M_combine_182 (by decide) (fun hc => ?_) (fun hc => ?_)
            · replace h := it_f h hc
              refine lv_iconst (v := (0 : Int32)) hx hb d_M_combine_189 (by decide) ?_
              refine lv_goto (tgt := 247) hx hb d_M_combine_190 (by decide) ?_
              exact L247 σ t0 (0 : Int32) H locs ls hP hD hS (lv_sub hl [1, 0] rfl) h
            · replace h := it_t h hc
              refine lv_iconst (v := (1 : Int32)) hx hb d_M_combine_185 (by decide) ?_
              refine lv_goto (tgt := 247) hx hb d_M_combine_186 (by decide) ?_
              exact L247 σ t0 (1 : Int32) H locs ls hP hD hS (lv_sub hl [1, 0] rfl) h
      · replace h := it_t h hc
        refine lv_aload_n hx hb d_M_combine_123 rfl (lv_at hl 1 rfl) ?_
        refine lv_lload_n hx hb d_M_combine_124 rfl (lv_at hl 3 rfl) ?_
        refine lv_lconst (v := (1 : Int64)) hx hb d_M_combine_125 (by decide) ?_
        refine W.lcmp hx hb d_M_combine_126 ?_
        have L161 : ∀ (σ : St) (t0 : Int64) (H : Heap) (locs : List Loc) (ls : Array Slot), va_P D vCl (wM g ca a σ ++ tl) H → va_D A (wM g ca a σ ++ tl) → va_S A s.heap H locs → lv_has ls 8 [] → f_M_combine_161 N σ t0 = some ((), σ') → W p l e R s m args below meth c H locs 0 0 (MQ below (qb_QV D vCl (tyM ca) (wM g ca a σ' ++ tl) A) args s 0 0 A) (F0 m 161 ls [.long t0, .ref (a 0)]) := by
          intro σ t0 H locs ls hP hD hS hl h
          unfold f_M_combine_161 at h
          refine lv_iconst (v := (0 : Int32)) hx hb d_M_combine_161 (by decide) ?_
          obtain ⟨r10, s11, hr10, h⟩ := bd_some h
          cases r10
          refine go_VV (rest := []) ⟨hx, hb, hml, hown, hB⟩ nwM_ok (c_M_give l D ca g a tl N σ s11 t0 (0 : Int32) hr10) (cwx_V hB m_1174 kw_M_give ⟨by rw [hR]; decide, by rw [hR]; decide⟩ rfl rfl) (va_recv hK hP (ci := 1) (q0 := 0) rfl rfl) hN hK hP hD hS hA rfl hl.1 rfl (Nat.le_of_ble_eq_true rfl) d_M_combine_162 ⟨by rw [hR]; exact Nat.le_of_ble_eq_true rfl, by rw [hR]; exact Nat.le_of_ble_eq_true rfl⟩ (fun H locs hP hD hS => ?_)
          refine lv_goto (tgt := 296) hx hb d_M_combine_165 (by decide) ?_
          exact rf_V (w := (fun z => wM g ca a z ++ tl)) h hx hb hr hlk hK hP hD hS d_M_combine_296
        have L137 : ∀ (σ : St) (H : Heap) (locs : List Loc) (ls : Array Slot), va_P D vCl (wM g ca a σ ++ tl) H → va_D A (wM g ca a σ ++ tl) → va_S A s.heap H locs → lv_has ls 8 [] → f_M_combine_137 N σ = some ((), σ') → W p l e R s m args below meth c H locs 0 0 (MQ below (qb_QV D vCl (tyM ca) (wM g ca a σ' ++ tl) A) args s 0 0 A) (F0 m 137 ls [.ref (a 0)]) := by
          intro σ H locs ls hP hD hS hl h
          unfold f_M_combine_137 at h
          refine lv_lconst (v := (1 : Int64)) hx hb d_M_combine_137 (by decide) ?_
          refine lv_goto (tgt := 161) hx hb d_M_combine_138 (by decide) ?_
          exact L161 σ (1 : Int64) H locs ls hP hD hS (lv_sub hl [] rfl) h
        refine lv_if_eq (tgt := 137) hx hb d_M_combine_127 (by decide) (fun hc => ?_) (fun hc => ?_)
        · replace h := it_t h hc
          exact L137 σ H locs ls hP hD hS (lv_sub hl [] rfl) h
        · replace h := it_f h hc
          refine lv_lload hx hb d_M_combine_130 (lv_at hl 4 rfl) ?_
          refine lv_lconst (v := (1 : Int64)) hx hb d_M_combine_132 (by decide) ?_
          refine W.lcmp hx hb d_M_combine_133 ?_
          refine lv_if_ne (tgt := 141) hx hb d_M_combine_134 (by decide) (fun hc => ?_) (fun hc => ?_)
          · replace h := it_f h hc
            refine lv_lload_n hx hb d_M_combine_141 rfl (lv_at hl 3 rfl) ?_
            refine lv_lconst (v := (0 : Int64)) hx hb d_M_combine_142 (by decide) ?_
            refine W.lcmp hx hb d_M_combine_143 ?_
            have L158 : ∀ (σ : St) (H : Heap) (locs : List Loc) (ls : Array Slot), va_P D vCl (wM g ca a σ ++ tl) H → va_D A (wM g ca a σ ++ tl) → va_S A s.heap H locs → lv_has ls 8 [] → f_M_combine_158 N σ = some ((), σ') → W p l e R s m args below meth c H locs 0 0 (MQ below (qb_QV D vCl (tyM ca) (wM g ca a σ' ++ tl) A) args s 0 0 A) (F0 m 158 ls [.ref (a 0)]) := by
              intro σ H locs ls hP hD hS hl h
              unfold f_M_combine_158 at h
              refine lv_ldc2 (v := (2 : Int64)) hx hb hown (hB _ m_1065) d_M_combine_158 ?_
              exact L161 σ (2 : Int64) H locs ls hP hD hS (lv_sub hl [] rfl) h
            refine lv_if_ne (tgt := 158) hx hb d_M_combine_144 (by decide) (fun hc => ?_) (fun hc => ?_)
            · replace h := it_f h hc
              exact L158 σ H locs ls hP hD hS (lv_sub hl [] rfl) h
            · replace h := it_t h hc
              refine lv_lload hx hb d_M_combine_147 (lv_at hl 4 rfl) ?_
              refine lv_lconst (v := (0 : Int64)) hx hb d_M_combine_149 (by decide) ?_
              refine W.lcmp hx hb d_M_combine_150 ?_
              refine lv_if_ne (tgt := 158) hx hb d_M_combine_151 (by decide) (fun hc => ?_) (fun hc => ?_)
              · replace h := it_f h hc
                exact L158 σ H locs ls hP hD hS (lv_sub hl [] rfl) h
              · replace h := it_t h hc
                refine lv_lconst (v := (0 : Int64)) hx hb d_M_combine_154 (by decide) ?_
                refine lv_goto (tgt := 161) hx hb d_M_combine_155 (by decide) ?_
                exact L161 σ (0 : Int64) H locs ls hP hD hS (lv_sub hl [] rfl) h
          · replace h := it_t h hc
            exact L137 σ H locs ls hP hD hS (lv_sub hl [] rfl) h
    · replace h := it_t h hc
      refine lv_aload_n hx hb d_M_combine_72 rfl (lv_at hl 1 rfl) ?_
      refine lv_lload_n hx hb d_M_combine_73 rfl (lv_at hl 3 rfl) ?_
      refine lv_lconst (v := (0 : Int64)) hx hb d_M_combine_74 (by decide) ?_
      refine W.lcmp hx hb d_M_combine_75 ?_
      have L110 : ∀ (σ : St) (t0 : Int64) (H : Heap) (locs : List Loc) (ls : Array Slot), va_P D vCl (wM g ca a σ ++ tl) H → va_D A (wM g ca a σ ++ tl) → va_S A s.heap H locs → lv_has ls 8 [] → f_M_combine_110 N σ t0 = some ((), σ') → W p l e R s m args below meth c H locs 0 0 (MQ below (qb_QV D vCl (tyM ca) (wM g ca a σ' ++ tl) A) args s 0 0 A) (F0 m 110 ls [.long t0, .ref (a 0)]) := by
        intro σ t0 H locs ls hP hD hS hl h
        unfold f_M_combine_110 at h
        refine lv_iconst (v := (0 : Int32)) hx hb d_M_combine_110 (by decide) ?_
        obtain ⟨r12, s13, hr12, h⟩ := bd_some h
        cases r12
        refine go_VV (rest := []) ⟨hx, hb, hml, hown, hB⟩ nwM_ok (c_M_give l D ca g a tl N σ s13 t0 (0 : Int32) hr12) (cwx_V hB m_1174 kw_M_give ⟨by rw [hR]; decide, by rw [hR]; decide⟩ rfl rfl) (va_recv hK hP (ci := 1) (q0 := 0) rfl rfl) hN hK hP hD hS hA rfl hl.1 rfl (Nat.le_of_ble_eq_true rfl) d_M_combine_111 ⟨by rw [hR]; exact Nat.le_of_ble_eq_true rfl, by rw [hR]; exact Nat.le_of_ble_eq_true rfl⟩ (fun H locs hP hD hS => ?_)
        refine lv_goto (tgt := 296) hx hb d_M_combine_114 (by decide) ?_
        exact rf_V (w := (fun z => wM g ca a z ++ tl)) h hx hb hr hlk hK hP hD hS d_M_combine_296
      have L86 : ∀ (σ : St) (H : Heap) (locs : List Loc) (ls : Array Slot), va_P D vCl (wM g ca a σ ++ tl) H → va_D A (wM g ca a σ ++ tl) → va_S A s.heap H locs → lv_has ls 8 [] → f_M_combine_86 N σ = some ((), σ') → W p l e R s m args below meth c H locs 0 0 (MQ below (qb_QV D vCl (tyM ca) (wM g ca a σ' ++ tl) A) args s 0 0 A) (F0 m 86 ls [.ref (a 0)]) := by
        intro σ H locs ls hP hD hS hl h
        unfold f_M_combine_86 at h
        refine lv_lconst (v := (0 : Int64)) hx hb d_M_combine_86 (by decide) ?_
        refine lv_goto (tgt := 110) hx hb d_M_combine_87 (by decide) ?_
        exact L110 σ (0 : Int64) H locs ls hP hD hS (lv_sub hl [] rfl) h
      refine lv_if_eq (tgt := 86) hx hb d_M_combine_76 (by decide) (fun hc => ?_) (fun hc => ?_)
      · replace h := it_t h hc
        exact L86 σ H locs ls hP hD hS (lv_sub hl [] rfl) h
      · replace h := it_f h hc
        refine lv_lload hx hb d_M_combine_79 (lv_at hl 4 rfl) ?_
        refine lv_lconst (v := (0 : Int64)) hx hb d_M_combine_81 (by decide) ?_
        refine W.lcmp hx hb d_M_combine_82 ?_
        refine lv_if_ne (tgt := 90) hx hb d_M_combine_83 (by decide) (fun hc => ?_) (fun hc => ?_)
        · replace h := it_f h hc
          refine lv_lload_n hx hb d_M_combine_90 rfl (lv_at hl 3 rfl) ?_
          refine lv_lconst (v := (1 : Int64)) hx hb d_M_combine_91 (by decide) ?_
          refine W.lcmp hx hb d_M_combine_92 ?_
          have L107 : ∀ (σ : St) (H : Heap) (locs : List Loc) (ls : Array Slot), va_P D vCl (wM g ca a σ ++ tl) H → va_D A (wM g ca a σ ++ tl) → va_S A s.heap H locs → lv_has ls 8 [] → f_M_combine_107 N σ = some ((), σ') → W p l e R s m args below meth c H locs 0 0 (MQ below (qb_QV D vCl (tyM ca) (wM g ca a σ' ++ tl) A) args s 0 0 A) (F0 m 107 ls [.ref (a 0)]) := by
            intro σ H locs ls hP hD hS hl h
            unfold f_M_combine_107 at h
            refine lv_ldc2 (v := (2 : Int64)) hx hb hown (hB _ m_1065) d_M_combine_107 ?_
            exact L110 σ (2 : Int64) H locs ls hP hD hS (lv_sub hl [] rfl) h
          refine lv_if_ne (tgt := 107) hx hb d_M_combine_93 (by decide) (fun hc => ?_) (fun hc => ?_)
          · replace h := it_f h hc
            exact L107 σ H locs ls hP hD hS (lv_sub hl [] rfl) h
          · replace h := it_t h hc
            refine lv_lload hx hb d_M_combine_96 (lv_at hl 4 rfl) ?_
            refine lv_lconst (v := (1 : Int64)) hx hb d_M_combine_98 (by decide) ?_
            refine W.lcmp hx hb d_M_combine_99 ?_
            refine lv_if_ne (tgt := 107) hx hb d_M_combine_100 (by decide) (fun hc => ?_) (fun hc => ?_)
            · replace h := it_f h hc
              exact L107 σ H locs ls hP hD hS (lv_sub hl [] rfl) h
            · replace h := it_t h hc
              refine lv_lconst (v := (1 : Int64)) hx hb d_M_combine_103 (by decide) ?_
              refine lv_goto (tgt := 110) hx hb d_M_combine_104 (by decide) ?_
              exact L110 σ (1 : Int64) H locs ls hP hD hS (lv_sub hl [] rfl) h
        · replace h := it_t h hc
          exact L86 σ H locs ls hP hD hS (lv_sub hl [] rfl) h
  have L59 : ∀ (σ : St) (x1 : Int32) (x2 : Int64) (x4 : Int64) (H : Heap) (locs : List Loc) (ls : Array Slot), va_P D vCl (wM g ca a σ ++ tl) H → va_D A (wM g ca a σ ++ tl) → va_S A s.heap H locs → lv_has ls 8 [(0, .ref (a 0)), (1, .int x1), (2, .long x2), (4, .long x4)] → f_M_combine_59 N σ x1 x2 x4 = some ((), σ') → W p l e R s m args below meth c H locs 0 0 (MQ below (qb_QV D vCl (tyM ca) (wM g ca a σ' ++ tl) A) args s 0 0 A) (F0 m 59 ls []) := by
    intro σ x1 x2 x4 H locs ls hP hD hS hl h
    unfold f_M_combine_59 at h
    refine lv_iconst (v := (1 : Int32)) hx hb d_M_combine_59 (by decide) ?_
    refine lv_goto (tgt := 64) hx hb d_M_combine_60 (by decide) ?_
    exact L64 σ x1 x2 x4 (1 : Int32) H locs ls hP hD hS (lv_sub hl [0, 1, 2, 3] rfl) h
  refine lv_if_ne (tgt := 59) hx hb d_M_combine_42 (by decide) (fun hc => ?_) (fun hc => ?_)
  · replace h := it_f h hc
    exact L59 s1 x1 (gb s1 6 ((gi s1 20)).toNatClampNeg) (gb s1 6 (((gi s1 20) + (1 : Int32))).toNatClampNeg) H locs ls hP hD hS (lv_sub hl [2, 3, 1, 0] rfl) h
  · replace h := it_t h hc
    refine lv_aload_n hx hb d_M_combine_45 rfl (lv_at hl 2 rfl) ?_
    refine Mg_0_54 hx hb hB hown (hB _ m_915) hK hP d_M_combine_46 ?_
    refine lv_aload_n hx hb d_M_combine_49 rfl (lv_at hl 2 rfl) ?_
    refine Mg_0_52 hx hb hB hown (hB _ m_913) hK hP d_M_combine_50 ?_
    refine lv_iconst (v := (1 : Int32)) hx hb d_M_combine_53 (by decide) ?_
    refine lv_iadd hx hb d_M_combine_54 ?_
    obtain ⟨hi, h⟩ := ckb_some h
    refine Ma_34 hx hb hK hP hi d_M_combine_55 ?_
    refine lv_if_eq (tgt := 63) hx hb d_M_combine_56 (by decide) (fun hc => ?_) (fun hc => ?_)
    · replace h := it_t h hc
      refine lv_iconst (v := (0 : Int32)) hx hb d_M_combine_63 (by decide) ?_
      exact L64 s1 x1 (gb s1 6 ((gi s1 20)).toNatClampNeg) (gb s1 6 (((gi s1 20) + (1 : Int32))).toNatClampNeg) (0 : Int32) H locs ls hP hD hS (lv_sub hl [2, 3, 1, 0] rfl) h
    · replace h := it_f h hc
      exact L59 s1 x1 (gb s1 6 ((gi s1 20)).toNatClampNeg) (gb s1 6 (((gi s1 20) + (1 : Int32))).toNatClampNeg) H locs ls hP hD hS (lv_sub hl [2, 3, 1, 0] rfl) h
set_option maxRecDepth 100000 in
set_option maxHeartbeats 4000000 in
theorem c_M_push (l : Launch) (D : va_G) (ca : Nat → ClassId) (g : Bool) (a : Nat → Nat) (tl : va_W) (N : Nat) (σ σ' : St) (x1 : Int32) (h : f_M_push N σ x1 = some ((), σ')) : CtV l y_M_push ws_M_push rm_M_push 0 0 D vCl (tyM ca) nwM [.ref (a 0), .int x1] (wM g ca a σ ++ tl) (wM g ca a σ' ++ tl) := by
  refine en_V (ws' := BIG) (by decide +kernel) rfl (Nat.le_of_ble_eq_true rfl) ?_
  intro p e s m below meth c A ls R args H locs hR hx hb hr hlk hml hown hB hK hN hP hD hA hS hl
  have hl : lv_has ls 2 [(0, .ref (a 0)), (1, .int x1)] := hl
  unfold f_M_push at h
  refine lv_aload_n hx hb d_M_push_0 rfl (lv_at hl 0 rfl) ?_
  refine Mg_0_50 hx hb hB hown (hB _ m_911) hK hP d_M_push_1 ?_
  refine lv_aload_n hx hb d_M_push_4 rfl (lv_at hl 0 rfl) ?_
  refine Mg_0_49 hx hb hB hown (hB _ m_910) hK hP d_M_push_5 ?_
  refine lv_iload_n hx hb d_M_push_8 rfl (lv_at hl 1 rfl) ?_
  obtain ⟨hi, h⟩ := ckb_some h
  obtain ⟨s1, es1, h⟩ := nm_some h
  refine Ms_31 es1 hx hb hK hP hD hS hi d_M_push_9 (fun H locs hP hD hS => ?_)
  refine lv_aload_n hx hb d_M_push_10 rfl (lv_at hl 0 rfl) ?_
  refine Mg_0_51 hx hb hB hown (hB _ m_912) hK hP d_M_push_11 ?_
  refine lv_aload_n hx hb d_M_push_14 rfl (lv_at hl 0 rfl) ?_
  refine Mg_0_49 hx hb hB hown (hB _ m_910) hK hP d_M_push_15 ?_
  refine lv_iconst (v := (0 : Int32)) hx hb d_M_push_18 (by decide) ?_
  obtain ⟨hi, h⟩ := ckb_some h
  obtain ⟨s2, es2, h⟩ := nm_some h
  refine Ms_32 es2 hx hb hK hP hD hS hi d_M_push_19 (fun H locs hP hD hS => ?_)
  refine lv_aload_n hx hb d_M_push_20 rfl (lv_at hl 0 rfl) ?_
  refine lv_dup hx hb d_M_push_21 rfl ?_
  refine Mg_0_49 hx hb hB hown (hB _ m_910) hK hP d_M_push_22 ?_
  refine lv_iconst (v := (1 : Int32)) hx hb d_M_push_25 (by decide) ?_
  refine lv_iadd hx hb d_M_push_26 ?_
  obtain ⟨s3, es3, h⟩ := nm_some h
  refine Mp_0_49 es3 hx hb hB hown (hB _ m_910) hK hP hD hS d_M_push_27 (fun H locs hP hD hS => ?_)
  exact rf_V (w := (fun z => wM g ca a z ++ tl)) h hx hb hr hlk hK hP hD hS d_M_push_30
set_option maxRecDepth 100000 in
set_option maxHeartbeats 4000000 in
theorem c_M_aggregateNumber (l : Launch) (D : va_G) (ca : Nat → ClassId) (g : Bool) (a : Nat → Nat) (tl : va_W) (N : Nat) (σ σ' : St) (x1 : Int32) (r : Int32) (h : f_M_aggregateNumber N σ x1 = some (r, σ')) : CtI l y_M_aggregateNumber ws_M_aggregateNumber rm_M_aggregateNumber 0 0 D vCl (tyM ca) nwM [.ref (a 0), .int x1] (wM g ca a σ ++ tl) (wM g ca a σ' ++ tl) r := by
  refine en_I (ws' := BIG) (by decide +kernel) rfl (Nat.le_of_ble_eq_true rfl) ?_
  intro p e s m below meth c A ls R args H locs hR hx hb hr hlk hml hown hB hK hN hP hD hA hS hl
  have hl : lv_has ls 4 [(0, .ref (a 0)), (1, .int x1)] := hl
  unfold f_M_aggregateNumber at h
  refine lv_iconst (v := (-1 : Int32)) hx hb d_M_aggregateNumber_0 (by decide) ?_
  refine lv_istore_n (lv' := [(2, .int (-1 : Int32)), (0, .ref (a 0)), (1, .int x1)]) hx hb d_M_aggregateNumber_1 rfl hl (by decide) rfl (fun ls hl => ?_)
  refine lv_iconst (v := (0 : Int32)) hx hb d_M_aggregateNumber_2 (by decide) ?_
  have L4 : ∀ (n : Nat) (σ : St) (x1 : Int32) (x2 : Int32) (x3 : Int32) (H : Heap) (locs : List Loc) (ls : Array Slot), va_P D vCl (wM g ca a σ ++ tl) H → va_D A (wM g ca a σ ++ tl) → va_S A s.heap H locs → lv_has ls 4 [(0, .ref (a 0)), (1, .int x1), (2, .int x2), (3, .int x3)] → f_M_aggregateNumber_4 N n σ x1 x2 x3 = some (r, σ') → W p l e R s m args below meth c H locs 0 0 (MQ below (qb_QI D vCl (tyM ca) (wM g ca a σ' ++ tl) A r) args s 0 0 A) (F0 m 4 ls []) := by
    intro n
    induction n with
    | zero => intro σ x1 x2 x3 H locs ls hP hD hS hl h; cases h
    | succ n ih4 =>
        intro σ x1 x2 x3 H locs ls hP hD hS hl h
        obtain ⟨K4, eK4⟩ : ∃ K, K = f_M_aggregateNumber_4 N n := ⟨_, rfl⟩
        rw [← eK4] at ih4
        replace h : f_M_aggregateNumber_4_b N K4 σ x1 x2 x3 = some (r, σ') := by rw [eK4]; exact h
        unfold f_M_aggregateNumber_4_b at h
        refine lv_iload_n hx hb d_M_aggregateNumber_4 rfl (lv_at hl 3 rfl) ?_
        refine lv_aload_n hx hb d_M_aggregateNumber_5 rfl (lv_at hl 0 rfl) ?_
        refine Mg_0_14 hx hb hB hown (hB _ m_875) hK hP d_M_aggregateNumber_6 ?_
        refine lv_icmp_ge (tgt := 34) hx hb d_M_aggregateNumber_9 (by decide) (fun hc => ?_) (fun hc => ?_)
        · replace h := it_t h hc
          refine lv_iload_n hx hb d_M_aggregateNumber_34 rfl (lv_at hl 2 rfl) ?_
          exact rf_I (w := (fun z => wM g ca a z ++ tl)) h hx hb hr hlk hK hP hD hS d_M_aggregateNumber_35
        · replace h := it_f h hc
          refine lv_aload_n hx hb d_M_aggregateNumber_12 rfl (lv_at hl 0 rfl) ?_
          refine Mg_0_15 hx hb hB hown (hB _ m_876) hK hP d_M_aggregateNumber_13 ?_
          refine lv_iload_n hx hb d_M_aggregateNumber_16 rfl (lv_at hl 3 rfl) ?_
          obtain ⟨hi, h⟩ := ckb_some h
          refine Ma_13 hx hb hK hP hi d_M_aggregateNumber_17 ?_
          refine lv_iload_n hx hb d_M_aggregateNumber_18 rfl (lv_at hl 1 rfl) ?_
          refine lv_icmp_ne (tgt := 26) hx hb d_M_aggregateNumber_19 (by decide) (fun hc => ?_) (fun hc => ?_)
          · replace h := it_f h hc
            refine lv_iload_n hx hb d_M_aggregateNumber_26 rfl (lv_at hl 2 rfl) ?_
            refine lv_istore_n (lv' := [(2, .int x2), (0, .ref (a 0)), (1, .int x1), (3, .int x3)]) hx hb d_M_aggregateNumber_27 rfl hl (by decide) rfl (fun ls hl => ?_)
            refine lv_iinc (v := (x3 + 1)) (lv' := [(3, .int (x3 + 1)), (2, .int x2), (0, .ref (a 0)), (1, .int x1)]) hx hb d_M_aggregateNumber_28 hl (k := 3) rfl rfl (by decide) rfl (fun ls hl => ?_)
            refine lv_goto (tgt := 4) hx hb d_M_aggregateNumber_31 (by decide) ?_
            exact ih4 σ x1 x2 (x3 + 1) H locs ls hP hD hS (lv_sub hl [2, 3, 1, 0] rfl) h
          · replace h := it_t h hc
            refine lv_iload_n hx hb d_M_aggregateNumber_22 rfl (lv_at hl 3 rfl) ?_
            refine lv_goto (tgt := 27) hx hb d_M_aggregateNumber_23 (by decide) ?_
            refine lv_istore_n (lv' := [(2, .int x3), (0, .ref (a 0)), (1, .int x1), (3, .int x3)]) hx hb d_M_aggregateNumber_27 rfl hl (by decide) rfl (fun ls hl => ?_)
            refine lv_iinc (v := (x3 + 1)) (lv' := [(3, .int (x3 + 1)), (2, .int x3), (0, .ref (a 0)), (1, .int x1)]) hx hb d_M_aggregateNumber_28 hl (k := 3) rfl rfl (by decide) rfl (fun ls hl => ?_)
            refine lv_goto (tgt := 4) hx hb d_M_aggregateNumber_31 (by decide) ?_
            exact ih4 σ x1 x3 (x3 + 1) H locs ls hP hD hS (lv_sub hl [2, 3, 1, 0] rfl) h
  refine lv_istore_n (lv' := [(3, .int (0 : Int32)), (2, .int (-1 : Int32)), (0, .ref (a 0)), (1, .int x1)]) hx hb d_M_aggregateNumber_3 rfl hl (by decide) rfl (fun ls hl => ?_)
  exact L4 N σ x1 (-1 : Int32) (0 : Int32) H locs ls hP hD hS (lv_sub hl [2, 3, 1, 0] rfl) h
set_option maxRecDepth 100000 in
set_option maxHeartbeats 4000000 in
theorem c_M_countsIn (l : Launch) (D : va_G) (ca : Nat → ClassId) (g : Bool) (a : Nat → Nat) (tl : va_W) (N : Nat) (σ σ' : St) (x1 : Int32) (x2 : Int32) (r : Int32) (h : f_M_countsIn N σ x1 x2 = some (r, σ')) : CtI l y_M_countsIn ws_M_countsIn rm_M_countsIn 0 0 D vCl (tyM ca) nwM [.ref (a 0), .int x1, .int x2] (wM g ca a σ ++ tl) (wM g ca a σ' ++ tl) r := by
  refine en_Z (ws' := BIG) (by decide +kernel) rfl (Nat.le_of_ble_eq_true rfl) ?_
  intro p e s m below meth c A ls R args H locs hR hx hb hr hlk hml hown hB hK hN hP hD hA hS hl
  have hl : lv_has ls 5 [(0, .ref (a 0)), (1, .int x1), (2, .int x2)] := hl
  unfold f_M_countsIn at h
  refine lv_aload_n hx hb d_M_countsIn_0 rfl (lv_at hl 0 rfl) ?_
  refine Mg_0_42 hx hb hB hown (hB _ m_903) hK hP d_M_countsIn_1 ?_
  refine lv_bipush (v := (8 : Int32)) hx hb d_M_countsIn_4 (by decide) ?_
  refine lv_iload_n hx hb d_M_countsIn_6 rfl (lv_at hl 1 rfl) ?_
  refine lv_imul hx hb d_M_countsIn_7 ?_
  refine lv_iload_n hx hb d_M_countsIn_8 rfl (lv_at hl 2 rfl) ?_
  refine lv_iadd hx hb d_M_countsIn_9 ?_
  obtain ⟨hi, h⟩ := ckb_some h
  refine Ma_26 hx hb hK hP hi d_M_countsIn_10 ?_
  refine lv_if_eq (tgt := 16) hx hb d_M_countsIn_11 (by decide) (fun hc => ?_) (fun hc => ?_)
  · replace h := it_t h hc
    refine lv_iconst (v := (0 : Int32)) hx hb d_M_countsIn_16 (by decide) ?_
    refine lv_istore_n (lv' := [(3, .int (0 : Int32)), (0, .ref (a 0)), (1, .int x1), (2, .int x2)]) hx hb d_M_countsIn_17 rfl hl (by decide) rfl (fun ls hl => ?_)
    refine lv_iconst (v := (0 : Int32)) hx hb d_M_countsIn_18 (by decide) ?_
    have L21 : ∀ (n : Nat) (σ : St) (x1 : Int32) (x2 : Int32) (x3 : Int32) (x4 : Int32) (H : Heap) (locs : List Loc) (ls : Array Slot), va_P D vCl (wM g ca a σ ++ tl) H → va_D A (wM g ca a σ ++ tl) → va_S A s.heap H locs → lv_has ls 5 [(0, .ref (a 0)), (1, .int x1), (2, .int x2), (3, .int x3), (4, .int x4)] → f_M_countsIn_21 N n σ x1 x2 x3 x4 = some (r, σ') → W p l e R s m args below meth c H locs 0 0 (MQ below (qb_QI D vCl (tyM ca) (wM g ca a σ' ++ tl) A r) args s 0 0 A) (F0 m 21 ls []) := by
      intro n
      induction n with
      | zero => intro σ x1 x2 x3 x4 H locs ls hP hD hS hl h; cases h
      | succ n ih21 =>
          intro σ x1 x2 x3 x4 H locs ls hP hD hS hl h
          obtain ⟨K21, eK21⟩ : ∃ K, K = f_M_countsIn_21 N n := ⟨_, rfl⟩
          rw [← eK21] at ih21
          replace h : f_M_countsIn_21_b N K21 σ x1 x2 x3 x4 = some (r, σ') := by rw [eK21]; exact h
          unfold f_M_countsIn_21_b at h
          refine lv_iload hx hb d_M_countsIn_21 (lv_at hl 4 rfl) ?_
          refine lv_iload_n hx hb d_M_countsIn_23 rfl (lv_at hl 1 rfl) ?_
          have L115 : ∀ (σ : St) (x3 : Int32) (H : Heap) (locs : List Loc) (ls : Array Slot), va_P D vCl (wM g ca a σ ++ tl) H → va_D A (wM g ca a σ ++ tl) → va_S A s.heap H locs → lv_has ls 5 [(3, .int x3)] → f_M_countsIn_115 N σ x3 = some (r, σ') → W p l e R s m args below meth c H locs 0 0 (MQ below (qb_QI D vCl (tyM ca) (wM g ca a σ' ++ tl) A r) args s 0 0 A) (F0 m 115 ls []) := by
            intro σ x3 H locs ls hP hD hS hl h
            unfold f_M_countsIn_115 at h
            refine lv_iload_n hx hb d_M_countsIn_115 rfl (lv_at hl 0 rfl) ?_
            refine lv_if_ne (tgt := 123) hx hb d_M_countsIn_116 (by decide) (fun hc => ?_) (fun hc => ?_)
            · replace h := it_f h hc
              refine lv_iconst (v := (0 : Int32)) hx hb d_M_countsIn_123 (by decide) ?_
              exact rf_Z (w := (fun z => wM g ca a z ++ tl)) h hx hb hr hlk hK hP hD hS rfl d_M_countsIn_124
            · replace h := it_t h hc
              refine lv_iconst (v := (1 : Int32)) hx hb d_M_countsIn_119 (by decide) ?_
              refine lv_goto (tgt := 124) hx hb d_M_countsIn_120 (by decide) ?_
              exact rf_Z (w := (fun z => wM g ca a z ++ tl)) h hx hb hr hlk hK hP hD hS rfl d_M_countsIn_124
          refine lv_icmp_ge (tgt := 115) hx hb d_M_countsIn_24 (by decide) (fun hc => ?_) (fun hc => ?_)
          · replace h := it_t h hc
            exact L115 σ x3 H locs ls hP hD hS (lv_sub hl [3] rfl) h
          · replace h := it_f h hc
            refine lv_aload_n hx hb d_M_countsIn_27 rfl (lv_at hl 0 rfl) ?_
            refine Mg_0_10 hx hb hB hown (hB _ m_871) hK hP d_M_countsIn_28 ?_
            refine lv_aload_n hx hb d_M_countsIn_31 rfl (lv_at hl 0 rfl) ?_
            refine Mg_0_15 hx hb hB hown (hB _ m_876) hK hP d_M_countsIn_32 ?_
            refine lv_iload_n hx hb d_M_countsIn_35 rfl (lv_at hl 2 rfl) ?_
            obtain ⟨hi, h⟩ := ckb_some h
            refine Ma_13 hx hb hK hP hi d_M_countsIn_36 ?_
            obtain ⟨hi, h⟩ := ckb_some h
            refine Ma_9 hx hb hK hP hi d_M_countsIn_37 ?_
            refine lv_if_eq (tgt := 115) hx hb d_M_countsIn_38 (by decide) (fun hc => ?_) (fun hc => ?_)
            · replace h := it_t h hc
              exact L115 σ x3 H locs ls hP hD hS (lv_sub hl [3] rfl) h
            · replace h := it_f h hc
              refine lv_iload_n hx hb d_M_countsIn_41 rfl (lv_at hl 3 rfl) ?_
              refine lv_if_ne (tgt := 103) hx hb d_M_countsIn_42 (by decide) (fun hc => ?_) (fun hc => ?_)
              · replace h := it_f h hc
                refine lv_iconst (v := (1 : Int32)) hx hb d_M_countsIn_103 (by decide) ?_
                refine lv_goto (tgt := 108) hx hb d_M_countsIn_104 (by decide) ?_
                refine lv_istore_n (lv' := [(3, .int (1 : Int32)), (0, .ref (a 0)), (1, .int x1), (2, .int x2), (4, .int x4)]) hx hb d_M_countsIn_108 rfl hl (by decide) rfl (fun ls hl => ?_)
                refine lv_iinc (v := (x4 + 1)) (lv' := [(4, .int (x4 + 1)), (3, .int (1 : Int32)), (0, .ref (a 0)), (1, .int x1), (2, .int x2)]) hx hb d_M_countsIn_109 hl (k := 4) rfl rfl (by decide) rfl (fun ls hl => ?_)
                refine lv_goto (tgt := 21) hx hb d_M_countsIn_112 (by decide) ?_
                exact ih21 σ x1 x2 (1 : Int32) (x4 + 1) H locs ls hP hD hS (lv_sub hl [2, 3, 4, 1, 0] rfl) h
              · replace h := it_t h hc
                refine lv_aload_n hx hb d_M_countsIn_45 rfl (lv_at hl 0 rfl) ?_
                refine Mg_0_40 hx hb hB hown (hB _ m_901) hK hP d_M_countsIn_46 ?_
                refine lv_iload hx hb d_M_countsIn_49 (lv_at hl 4 rfl) ?_
                obtain ⟨hi, h⟩ := ckb_some h
                refine Ma_24 hx hb hK hP hi d_M_countsIn_51 ?_
                refine lv_aload_n hx hb d_M_countsIn_52 rfl (lv_at hl 0 rfl) ?_
                refine Mg_0_40 hx hb hB hown (hB _ m_901) hK hP d_M_countsIn_53 ?_
                refine lv_iload_n hx hb d_M_countsIn_56 rfl (lv_at hl 1 rfl) ?_
                obtain ⟨hi, h⟩ := ckb_some h
                refine Ma_24 hx hb hK hP hi d_M_countsIn_57 ?_
                refine lv_icmp_ne (tgt := 107) hx hb d_M_countsIn_58 (by decide) (fun hc => ?_) (fun hc => ?_)
                · replace h := it_f h hc
                  refine lv_iconst (v := (0 : Int32)) hx hb d_M_countsIn_107 (by decide) ?_
                  refine lv_istore_n (lv' := [(3, .int (0 : Int32)), (0, .ref (a 0)), (1, .int x1), (2, .int x2), (4, .int x4)]) hx hb d_M_countsIn_108 rfl hl (by decide) rfl (fun ls hl => ?_)
                  refine lv_iinc (v := (x4 + 1)) (lv' := [(4, .int (x4 + 1)), (3, .int (0 : Int32)), (0, .ref (a 0)), (1, .int x1), (2, .int x2)]) hx hb d_M_countsIn_109 hl (k := 4) rfl rfl (by decide) rfl (fun ls hl => ?_)
                  refine lv_goto (tgt := 21) hx hb d_M_countsIn_112 (by decide) ?_
                  exact ih21 σ x1 x2 (0 : Int32) (x4 + 1) H locs ls hP hD hS (lv_sub hl [2, 3, 4, 1, 0] rfl) h
                · replace h := it_t h hc
                  refine lv_aload_n hx hb d_M_countsIn_61 rfl (lv_at hl 0 rfl) ?_
                  refine Mg_0_42 hx hb hB hown (hB _ m_903) hK hP d_M_countsIn_62 ?_
                  refine lv_bipush (v := (8 : Int32)) hx hb d_M_countsIn_65 (by decide) ?_
                  refine lv_iload hx hb d_M_countsIn_67 (lv_at hl 4 rfl) ?_
                  refine lv_imul hx hb d_M_countsIn_69 ?_
                  refine lv_iload_n hx hb d_M_countsIn_70 rfl (lv_at hl 2 rfl) ?_
                  refine lv_iadd hx hb d_M_countsIn_71 ?_
                  obtain ⟨hi, h⟩ := ckb_some h
                  refine Ma_26 hx hb hK hP hi d_M_countsIn_72 ?_
                  refine lv_if_ne (tgt := 107) hx hb d_M_countsIn_73 (by decide) (fun hc => ?_) (fun hc => ?_)
                  · replace h := it_f h hc
                    refine lv_iconst (v := (0 : Int32)) hx hb d_M_countsIn_107 (by decide) ?_
                    refine lv_istore_n (lv' := [(3, .int (0 : Int32)), (0, .ref (a 0)), (1, .int x1), (2, .int x2), (4, .int x4)]) hx hb d_M_countsIn_108 rfl hl (by decide) rfl (fun ls hl => ?_)
                    refine lv_iinc (v := (x4 + 1)) (lv' := [(4, .int (x4 + 1)), (3, .int (0 : Int32)), (0, .ref (a 0)), (1, .int x1), (2, .int x2)]) hx hb d_M_countsIn_109 hl (k := 4) rfl rfl (by decide) rfl (fun ls hl => ?_)
                    refine lv_goto (tgt := 21) hx hb d_M_countsIn_112 (by decide) ?_
                    exact ih21 σ x1 x2 (0 : Int32) (x4 + 1) H locs ls hP hD hS (lv_sub hl [2, 3, 4, 1, 0] rfl) h
                  · replace h := it_t h hc
                    refine lv_aload_n hx hb d_M_countsIn_76 rfl (lv_at hl 0 rfl) ?_
                    refine Mg_0_41 hx hb hB hown (hB _ m_902) hK hP d_M_countsIn_77 ?_
                    refine lv_bipush (v := (8 : Int32)) hx hb d_M_countsIn_80 (by decide) ?_
                    refine lv_iload hx hb d_M_countsIn_82 (lv_at hl 4 rfl) ?_
                    refine lv_imul hx hb d_M_countsIn_84 ?_
                    refine lv_iload_n hx hb d_M_countsIn_85 rfl (lv_at hl 2 rfl) ?_
                    refine lv_iadd hx hb d_M_countsIn_86 ?_
                    obtain ⟨hi, h⟩ := ckb_some h
                    refine Ma_25 hx hb hK hP hi d_M_countsIn_87 ?_
                    refine lv_aload_n hx hb d_M_countsIn_88 rfl (lv_at hl 0 rfl) ?_
                    refine Mg_0_41 hx hb hB hown (hB _ m_902) hK hP d_M_countsIn_89 ?_
                    refine lv_bipush (v := (8 : Int32)) hx hb d_M_countsIn_92 (by decide) ?_
                    refine lv_iload_n hx hb d_M_countsIn_94 rfl (lv_at hl 1 rfl) ?_
                    refine lv_imul hx hb d_M_countsIn_95 ?_
                    refine lv_iload_n hx hb d_M_countsIn_96 rfl (lv_at hl 2 rfl) ?_
                    refine lv_iadd hx hb d_M_countsIn_97 ?_
                    obtain ⟨hi, h⟩ := ckb_some h
                    refine Ma_25 hx hb hK hP hi d_M_countsIn_98 ?_
                    refine W.lcmp hx hb d_M_countsIn_99 ?_
                    refine lv_if_ne (tgt := 107) hx hb d_M_countsIn_100 (by decide) (fun hc => ?_) (fun hc => ?_)
                    · replace h := it_f h hc
                      refine lv_iconst (v := (0 : Int32)) hx hb d_M_countsIn_107 (by decide) ?_
                      refine lv_istore_n (lv' := [(3, .int (0 : Int32)), (0, .ref (a 0)), (1, .int x1), (2, .int x2), (4, .int x4)]) hx hb d_M_countsIn_108 rfl hl (by decide) rfl (fun ls hl => ?_)
                      refine lv_iinc (v := (x4 + 1)) (lv' := [(4, .int (x4 + 1)), (3, .int (0 : Int32)), (0, .ref (a 0)), (1, .int x1), (2, .int x2)]) hx hb d_M_countsIn_109 hl (k := 4) rfl rfl (by decide) rfl (fun ls hl => ?_)
                      refine lv_goto (tgt := 21) hx hb d_M_countsIn_112 (by decide) ?_
                      exact ih21 σ x1 x2 (0 : Int32) (x4 + 1) H locs ls hP hD hS (lv_sub hl [2, 3, 4, 1, 0] rfl) h
                    · replace h := it_t h hc
                      refine lv_iconst (v := (1 : Int32)) hx hb d_M_countsIn_103 (by decide) ?_
                      refine lv_goto (tgt := 108) hx hb d_M_countsIn_104 (by decide) ?_
                      refine lv_istore_n (lv' := [(3, .int (1 : Int32)), (0, .ref (a 0)), (1, .int x1), (2, .int x2), (4, .int x4)]) hx hb d_M_countsIn_108 rfl hl (by decide) rfl (fun ls hl => ?_)
                      refine lv_iinc (v := (x4 + 1)) (lv' := [(4, .int (x4 + 1)), (3, .int (1 : Int32)), (0, .ref (a 0)), (1, .int x1), (2, .int x2)]) hx hb d_M_countsIn_109 hl (k := 4) rfl rfl (by decide) rfl (fun ls hl => ?_)
                      refine lv_goto (tgt := 21) hx hb d_M_countsIn_112 (by decide) ?_
                      exact ih21 σ x1 x2 (1 : Int32) (x4 + 1) H locs ls hP hD hS (lv_sub hl [2, 3, 4, 1, 0] rfl) h
    refine lv_istore (lv' := [(4, .int (0 : Int32)), (3, .int (0 : Int32)), (0, .ref (a 0)), (1, .int x1), (2, .int x2)]) hx hb d_M_countsIn_19 hl (by decide) rfl (fun ls hl => ?_)
    exact L21 N σ x1 x2 (0 : Int32) (0 : Int32) H locs ls hP hD hS (lv_sub hl [2, 3, 4, 1, 0] rfl) h
  · replace h := it_f h hc
    refine lv_iconst (v := (0 : Int32)) hx hb d_M_countsIn_14 (by decide) ?_
    exact rf_Z (w := (fun z => wM g ca a z ++ tl)) h hx hb hr hlk hK hP hD hS rfl d_M_countsIn_15
