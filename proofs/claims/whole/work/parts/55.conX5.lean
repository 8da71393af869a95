set_option maxRecDepth 100000 in
set_option maxHeartbeats 4000000 in
theorem c_G_resultOf (l : Launch) (D : va_G) (ca : Nat → ClassId) (a : Nat → Nat) (tl : va_W) (N : Nat) (σ σ' : St) (x1 : Int32) (r : Int64) (h : f_G_resultOf N σ x1 = some (r, σ')) : CtL l y_G_resultOf ws_G_resultOf rm_G_resultOf 0 0 D vCl (tyX ca) nwX [.ref (a 35), .int x1] (wX true ca a σ ++ tl) (wX true ca a σ' ++ tl) r := by
  refine en_L (ws' := BIG) (by decide +kernel) rfl (Nat.le_of_ble_eq_true rfl) ?_
  intro p e s m below meth c A ls R args H locs hR hx hb hr hlk hml hown hB hK hN hP hD hA hS hl
  have hl : lv_has ls 5 [(0, .ref (a 35)), (1, .int x1)] := hl
  unfold f_G_resultOf at h
  refine lv_aload_n hx hb d_G_resultOf_0 rfl (lv_at hl 0 rfl) ?_
  refine Xg_35_11 hx hb hB hown (hB _ m_628) hK hP d_G_resultOf_1 ?_
  refine lv_aload_n hx hb d_G_resultOf_4 rfl (lv_at hl 0 rfl) ?_
  refine Xg_35_13 hx hb hB hown (hB _ m_630) hK hP d_G_resultOf_5 ?_
  refine lv_bipush (v := (8 : Int32)) hx hb d_G_resultOf_8 (by decide) ?_
  refine lv_imul hx hb d_G_resultOf_10 ?_
  refine lv_iload_n hx hb d_G_resultOf_11 rfl (lv_at hl 1 rfl) ?_
  refine lv_iadd hx hb d_G_resultOf_12 ?_
  obtain ⟨hi, h⟩ := ckb_some h
  refine Xa_44 hx hb hK hP hi d_G_resultOf_13 ?_
  refine lv_istore_n (lv' := [(2, .int (ga σ 30 ((((gi σ 20) * (8 : Int32)) + x1)).toNatClampNeg)), (0, .ref (a 35)), (1, .int x1)]) hx hb d_G_resultOf_14 rfl hl (by decide) rfl (fun ls hl => ?_)
  refine lv_aload_n hx hb d_G_resultOf_15 rfl (lv_at hl 1 rfl) ?_
  refine Xg_35_12 hx hb hB hown (hB _ m_629) hK hP d_G_resultOf_16 ?_
  refine lv_aload_n hx hb d_G_resultOf_19 rfl (lv_at hl 1 rfl) ?_
  refine Xg_35_13 hx hb hB hown (hB _ m_630) hK hP d_G_resultOf_20 ?_
  refine lv_bipush (v := (8 : Int32)) hx hb d_G_resultOf_23 (by decide) ?_
  refine lv_imul hx hb d_G_resultOf_25 ?_
  refine lv_iload_n hx hb d_G_resultOf_26 rfl (lv_at hl 2 rfl) ?_
  refine lv_iadd hx hb d_G_resultOf_27 ?_
  obtain ⟨hi, h⟩ := ckb_some h
  refine Xa_45 hx hb hK hP hi d_G_resultOf_28 ?_
  refine lv_lstore_n (lv' := [(3, .long (gb σ 5 ((((gi σ 20) * (8 : Int32)) + x1)).toNatClampNeg)), (2, .int (ga σ 30 ((((gi σ 20) * (8 : Int32)) + x1)).toNatClampNeg)), (0, .ref (a 35)), (1, .int x1)]) hx hb d_G_resultOf_29 rfl hl (by decide) rfl (fun ls hl => ?_)
  refine lv_aload_n hx hb d_G_resultOf_30 rfl (lv_at hl 2 rfl) ?_
  refine Xg_35_0 hx hb hB hown (hB _ m_616) hK hP d_G_resultOf_31 ?_
  refine Xg_6_10 hx hb hB hown (hB _ m_156) hK hP d_G_resultOf_34 ?_
  refine lv_iload_n hx hb d_G_resultOf_37 rfl (lv_at hl 3 rfl) ?_
  obtain ⟨hi, h⟩ := ckb_some h
  refine Xa_15 hx hb hK hP hi d_G_resultOf_38 ?_
  by_cases c0 : (ga σ 10 (x1).toNatClampNeg) = 0
  · replace h := it_t h c0
    refine lv_lookup (off := (33 : Int)) (tgt := 72) hx hb d_G_resultOf_39 (by decide) (by rw [c0]; first | done | rfl | decide) (by decide) ?_
    refine lv_iload_n hx hb d_G_resultOf_72 rfl (lv_at hl 1 rfl) ?_
    refine lv_i2l hx hb d_G_resultOf_73 rfl ?_
    exact rf_L (w := (fun z => wX true ca a z ++ tl)) h hx hb hr hlk hK hP hD hS d_G_resultOf_74
  replace h := it_f h c0
  by_cases c1 : (ga σ 10 (x1).toNatClampNeg) = 1
  · replace h := it_t h c1
    refine lv_lookup (off := (33 : Int)) (tgt := 72) hx hb d_G_resultOf_39 (by decide) (by rw [c1]; first | done | rfl | decide) (by decide) ?_
    refine lv_iload_n hx hb d_G_resultOf_72 rfl (lv_at hl 1 rfl) ?_
    refine lv_i2l hx hb d_G_resultOf_73 rfl ?_
    exact rf_L (w := (fun z => wX true ca a z ++ tl)) h hx hb hr hlk hK hP hD hS d_G_resultOf_74
  replace h := it_f h c1
  by_cases c5 : (ga σ 10 (x1).toNatClampNeg) = 5
  · replace h := it_t h c5
    refine lv_lookup (off := (36 : Int)) (tgt := 75) hx hb d_G_resultOf_39 (by decide) (by rw [c5]; first | done | rfl | decide) (by decide) ?_
    refine lv_iload_n hx hb d_G_resultOf_75 rfl (lv_at hl 1 rfl) ?_
    refine lv_if_ne (tgt := 83) hx hb d_G_resultOf_76 (by decide) (fun hc => ?_) (fun hc => ?_)
    · replace h := it_f h hc
      refine lv_lload_n hx hb d_G_resultOf_83 rfl (lv_at hl 0 rfl) ?_
      refine lv_iload_n hx hb d_G_resultOf_84 rfl (lv_at hl 1 rfl) ?_
      refine lv_i2l hx hb d_G_resultOf_85 rfl ?_
      obtain ⟨hi, h⟩ := ckzl_some h
      refine lv_ldiv hx hb d_G_resultOf_86 hi ?_
      exact rf_L (w := (fun z => wX true ca a z ++ tl)) h hx hb hr hlk hK hP hD hS d_G_resultOf_87
    · replace h := it_t h hc
      refine lv_lconst (v := (0 : Int64)) hx hb d_G_resultOf_79 (by decide) ?_
      refine lv_goto (tgt := 87) hx hb d_G_resultOf_80 (by decide) ?_
      exact rf_L (w := (fun z => wX true ca a z ++ tl)) h hx hb hr hlk hK hP hD hS d_G_resultOf_87
  replace h := it_f h c5
  refine lv_lookup (off := (49 : Int)) (tgt := 88) hx hb d_G_resultOf_39 (by decide) (by show Op.lookupswitch.offset _ _ _ = _; rw [lv_osw c0 (show (0 : Int32).toInt = 0 by decide), lv_osw c1 (show (1 : Int32).toInt = 1 by decide), lv_osw c5 (show (5 : Int32).toInt = 5 by decide)]; first | done | rfl) (by decide) ?_
  refine lv_lload_n hx hb d_G_resultOf_88 rfl (lv_at hl 0 rfl) ?_
  exact rf_L (w := (fun z => wX true ca a z ++ tl)) h hx hb hr hlk hK hP hD hS d_G_resultOf_89
set_option maxRecDepth 100000 in
set_option maxHeartbeats 4000000 in
theorem c_G_hasResult (l : Launch) (D : va_G) (ca : Nat → ClassId) (a : Nat → Nat) (tl : va_W) (N : Nat) (σ σ' : St) (x1 : Int32) (r : Int32) (h : f_G_hasResult N σ x1 = some (r, σ')) : CtI l y_G_hasResult ws_G_hasResult rm_G_hasResult 0 0 D vCl (tyX ca) nwX [.ref (a 35), .int x1] (wX true ca a σ ++ tl) (wX true ca a σ' ++ tl) r := by
  refine en_Z (ws' := BIG) (by decide +kernel) rfl (Nat.le_of_ble_eq_true rfl) ?_
  intro p e s m below meth c A ls R args H locs hR hx hb hr hlk hml hown hB hK hN hP hD hA hS hl
  have hl : lv_has ls 3 [(0, .ref (a 35)), (1, .int x1)] := hl
  unfold f_G_hasResult at h
  refine lv_aload_n hx hb d_G_hasResult_0 rfl (lv_at hl 0 rfl) ?_
  refine Xg_35_0 hx hb hB hown (hB _ m_616) hK hP d_G_hasResult_1 ?_
  refine Xg_6_10 hx hb hB hown (hB _ m_156) hK hP d_G_hasResult_4 ?_
  refine lv_iload_n hx hb d_G_hasResult_7 rfl (lv_at hl 1 rfl) ?_
  obtain ⟨hi, h⟩ := ckb_some h
  refine Xa_15 hx hb hK hP hi d_G_hasResult_8 ?_
  refine lv_istore_n (lv' := [(2, .int (ga σ 10 (x1).toNatClampNeg)), (0, .ref (a 35)), (1, .int x1)]) hx hb d_G_hasResult_9 rfl hl (by decide) rfl (fun ls hl => ?_)
  refine lv_iload_n hx hb d_G_hasResult_10 rfl (lv_at hl 0 rfl) ?_
  refine lv_if_eq (tgt := 36) hx hb d_G_hasResult_11 (by decide) (fun hc => ?_) (fun hc => ?_)
  · replace h := it_t h hc
    refine lv_iconst (v := (1 : Int32)) hx hb d_G_hasResult_36 (by decide) ?_
    refine lv_goto (tgt := 41) hx hb d_G_hasResult_37 (by decide) ?_
    exact rf_Z (w := (fun z => wX true ca a z ++ tl)) h hx hb hr hlk hK hP hD hS rfl d_G_hasResult_41
  · replace h := it_f h hc
    refine lv_iload_n hx hb d_G_hasResult_14 rfl (lv_at hl 0 rfl) ?_
    refine lv_iconst (v := (1 : Int32)) hx hb d_G_hasResult_15 (by decide) ?_
    refine lv_icmp_eq (tgt := 36) hx hb d_G_hasResult_16 (by decide) (fun hc => ?_) (fun hc => ?_)
    · replace h := it_t h hc
      refine lv_iconst (v := (1 : Int32)) hx hb d_G_hasResult_36 (by decide) ?_
      refine lv_goto (tgt := 41) hx hb d_G_hasResult_37 (by decide) ?_
      exact rf_Z (w := (fun z => wX true ca a z ++ tl)) h hx hb hr hlk hK hP hD hS rfl d_G_hasResult_41
    · replace h := it_f h hc
      refine lv_aload_n hx hb d_G_hasResult_19 rfl (lv_at hl 1 rfl) ?_
      refine Xg_35_11 hx hb hB hown (hB _ m_628) hK hP d_G_hasResult_20 ?_
      refine lv_aload_n hx hb d_G_hasResult_23 rfl (lv_at hl 1 rfl) ?_
      refine Xg_35_13 hx hb hB hown (hB _ m_630) hK hP d_G_hasResult_24 ?_
      refine lv_bipush (v := (8 : Int32)) hx hb d_G_hasResult_27 (by decide) ?_
      refine lv_imul hx hb d_G_hasResult_29 ?_
      refine lv_iload_n hx hb d_G_hasResult_30 rfl (lv_at hl 2 rfl) ?_
      refine lv_iadd hx hb d_G_hasResult_31 ?_
      obtain ⟨hi, h⟩ := ckb_some h
      refine Xa_44 hx hb hK hP hi d_G_hasResult_32 ?_
      refine lv_if_eq (tgt := 40) hx hb d_G_hasResult_33 (by decide) (fun hc => ?_) (fun hc => ?_)
      · replace h := it_t h hc
        refine lv_iconst (v := (0 : Int32)) hx hb d_G_hasResult_40 (by decide) ?_
        exact rf_Z (w := (fun z => wX true ca a z ++ tl)) h hx hb hr hlk hK hP hD hS rfl d_G_hasResult_41
      · replace h := it_f h hc
        refine lv_iconst (v := (1 : Int32)) hx hb d_G_hasResult_36 (by decide) ?_
        refine lv_goto (tgt := 41) hx hb d_G_hasResult_37 (by decide) ?_
        exact rf_Z (w := (fun z => wX true ca a z ++ tl)) h hx hb hr hlk hK hP hD hS rfl d_G_hasResult_41
set_option maxRecDepth 100000 in
set_option maxHeartbeats 4000000 in
theorem c_V_ofGroup (l : Launch) (D : va_G) (ca : Nat → ClassId) (g : Bool) (a : Nat → Nat) (tl : va_W) (N : Nat) (σ σ' : St) (x1 : Int32) (r : Int32) (h : f_V_ofGroup N g σ x1 = some (r, σ')) : CtI l y_V_ofGroup ws_V_ofGroup rm_V_ofGroup 0 0 D vCl (tyX ca) nwX [.ref (a 33), .int x1] (wX g ca a σ ++ tl) (wX g ca a σ' ++ tl) r := by
  refine en_I (ws' := BIG) (by decide +kernel) rfl (Nat.le_of_ble_eq_true rfl) ?_
  intro p e s m below meth c A ls R args H locs hR hx hb hr hlk hml hown hB hK hN hP hD hA hS hl
  have hl : lv_has ls 2 [(0, .ref (a 33)), (1, .int x1)] := hl
  unfold f_V_ofGroup at h
  refine lv_aload_n hx hb d_V_ofGroup_0 rfl (lv_at hl 0 rfl) ?_
  cases g with
  | true =>
    replace h := it_t h rfl
    refine Xg_33_4t hx hb hB hown (hB _ m_345) hK hP d_V_ofGroup_1 ?_
    refine lv_ifnonnull (tgt := 9) hx hb d_V_ofGroup_4 (by decide) ?_
    refine lv_aload_n hx hb d_V_ofGroup_9 rfl (lv_at hl 0 rfl) ?_
    refine lv_aload_n hx hb d_V_ofGroup_10 rfl (lv_at hl 0 rfl) ?_
    replace h := it_t h (by decide)
    refine Xg_33_4t hx hb hB hown (hB _ m_345) hK hP d_V_ofGroup_11 ?_
    refine lv_iload_n hx hb d_V_ofGroup_14 rfl (lv_at hl 1 rfl) ?_
    obtain ⟨r1, s2, hr1, h⟩ := bd_some h
    refine go_VL (rest := [.ref (a 33)]) ⟨hx, hb, hml, hown, hB⟩ nwX_ok (c_G_resultOf l D ca a tl N σ s2 x1 r1 hr1) (cwx_V hB m_698 kw_G_resultOf ⟨by rw [hR]; decide, by rw [hR]; decide⟩ rfl rfl) (va_recv hK hP (ci := 6) (q0 := 35) rfl rfl) hN hK hP hD hS hA rfl hl.1 rfl (Nat.le_of_ble_eq_true rfl) d_V_ofGroup_15 ⟨by rw [hR]; exact Nat.le_of_ble_eq_true rfl, by rw [hR]; exact Nat.le_of_ble_eq_true rfl⟩ (fun H locs hP hD hS => ?_)
    obtain ⟨s3, es3, h⟩ := nm_some h
    refine Xp_33_5 es3 hx hb hB hown (hB _ m_346) hK hP hD hS d_V_ofGroup_18 (fun H locs hP hD hS => ?_)
    refine lv_aload_n hx hb d_V_ofGroup_21 rfl (lv_at hl 0 rfl) ?_
    replace h := it_t h (by decide)
    refine Xg_33_4t hx hb hB hown (hB _ m_345) hK hP d_V_ofGroup_22 ?_
    refine lv_iload_n hx hb d_V_ofGroup_25 rfl (lv_at hl 1 rfl) ?_
    obtain ⟨r4, s5, hr4, h⟩ := bd_some h
    refine go_VI (rest := []) ⟨hx, hb, hml, hown, hB⟩ nwX_ok (c_G_hasResult l D ca a tl N s3 s5 x1 r4 hr4) (cwx_V hB m_702 kw_G_hasResult ⟨by rw [hR]; decide, by rw [hR]; decide⟩ rfl rfl) (va_recv hK hP (ci := 6) (q0 := 35) rfl rfl) hN hK hP hD hS hA rfl hl.1 rfl (Nat.le_of_ble_eq_true rfl) d_V_ofGroup_26 ⟨by rw [hR]; exact Nat.le_of_ble_eq_true rfl, by rw [hR]; exact Nat.le_of_ble_eq_true rfl⟩ (fun H locs hP hD hS => ?_)
    refine lv_if_eq (tgt := 36) hx hb d_V_ofGroup_29 (by decide) (fun hc => ?_) (fun hc => ?_)
    · replace h := it_t h hc
      refine lv_iconst (v := (0 : Int32)) hx hb d_V_ofGroup_36 (by decide) ?_
      exact rf_I (w := (fun z => wX true ca a z ++ tl)) h hx hb hr hlk hK hP hD hS d_V_ofGroup_37
    · replace h := it_f h hc
      refine lv_iconst (v := (1 : Int32)) hx hb d_V_ofGroup_32 (by decide) ?_
      refine lv_goto (tgt := 37) hx hb d_V_ofGroup_33 (by decide) ?_
      exact rf_I (w := (fun z => wX true ca a z ++ tl)) h hx hb hr hlk hK hP hD hS d_V_ofGroup_37
  | false =>
    replace h := it_f h (by decide)
    refine Xg_33_4f hx hb hB hown (hB _ m_345) hK hP d_V_ofGroup_1 ?_
    refine lv_ifnonnullN hx hb d_V_ofGroup_4 ?_
    refine lv_iconst (v := (0 : Int32)) hx hb d_V_ofGroup_7 (by decide) ?_
    exact rf_I (w := (fun z => wX false ca a z ++ tl)) h hx hb hr hlk hK hP hD hS d_V_ofGroup_8
set_option maxRecDepth 100000 in
set_option maxHeartbeats 4000000 in
theorem c_V_calculate (l : Launch) (D : va_G) (ca : Nat → ClassId) (g : Bool) (a : Nat → Nat) (tl : va_W) (N : Nat) (σ σ' : St) (x1 : Int32) (x2 : Int64) (x4 : Int64) (r : Int32) (h : f_V_calculate N σ x1 x2 x4 = some (r, σ')) : CtI l y_V_calculate ws_V_calculate rm_V_calculate 0 0 D vCl (tyX ca) nwX [.ref (a 33), .int x1, .long x2, .long x4] (wX g ca a σ ++ tl) (wX g ca a σ' ++ tl) r := by
  refine en_I (ws' := BIG) (by decide +kernel) rfl (Nat.le_of_ble_eq_true rfl) ?_
  intro p e s m below meth c A ls R args H locs hR hx hb hr hlk hml hown hB hK hN hP hD hA hS hl
  have hl : lv_has ls 8 [(0, .ref (a 33)), (1, .int x1), (2, .long x2), (4, .long x4)] := hl
  unfold f_V_calculate at h
  refine lv_iload_n hx hb d_V_calculate_0 rfl (lv_at hl 1 rfl) ?_
  have L127 : ∀ (σ : St) (x6 : Int64) (H : Heap) (locs : List Loc) (ls : Array Slot), va_P D vCl (wX g ca a σ ++ tl) H → va_D A (wX g ca a σ ++ tl) → va_S A s.heap H locs → lv_has ls 8 [(0, .ref (a 33)), (6, .long x6)] → f_V_calculate_127 N σ x6 = some (r, σ') → W p l e R s m args below meth c H locs 0 0 (MQ below (qb_QI D vCl (tyX ca) (wX g ca a σ' ++ tl) A r) args s 0 0 A) (F0 m 127 ls []) := by
    intro σ x6 H locs ls hP hD hS hl h
    unfold f_V_calculate_127 at h
    refine lv_lload hx hb d_V_calculate_127 (lv_at hl 1 rfl) ?_
    refine lv_ldc2 (v := (-1000000000000000 : Int64)) hx hb hown (hB _ m_715) d_V_calculate_129 ?_
    refine W.lcmp hx hb d_V_calculate_132 ?_
    refine lv_if_lt (tgt := 145) hx hb d_V_calculate_133 (by decide) (fun hc => ?_) (fun hc => ?_)
    · replace h := it_t h hc
      refine lv_bipush (v := (-21 : Int32)) hx hb d_V_calculate_145 (by decide) ?_
      exact rf_I (w := (fun z => wX g ca a z ++ tl)) h hx hb hr hlk hK hP hD hS d_V_calculate_147
    · replace h := it_f h hc
      refine lv_lload hx hb d_V_calculate_136 (lv_at hl 1 rfl) ?_
      refine lv_ldc2 (v := (1000000000000000 : Int64)) hx hb hown (hB _ m_714) d_V_calculate_138 ?_
      refine W.lcmp hx hb d_V_calculate_141 ?_
      refine lv_if_le (tgt := 148) hx hb d_V_calculate_142 (by decide) (fun hc => ?_) (fun hc => ?_)
      · replace h := it_t h hc
        refine lv_aload_n hx hb d_V_calculate_148 rfl (lv_at hl 0 rfl) ?_
        refine lv_lload hx hb d_V_calculate_149 (lv_at hl 1 rfl) ?_
        obtain ⟨s1, es1, h⟩ := nm_some h
        refine Xp_33_5 es1 hx hb hB hown (hB _ m_346) hK hP hD hS d_V_calculate_151 (fun H locs hP hD hS => ?_)
        refine lv_iconst (v := (1 : Int32)) hx hb d_V_calculate_154 (by decide) ?_
        exact rf_I (w := (fun z => wX g ca a z ++ tl)) h hx hb hr hlk hK hP hD hS d_V_calculate_155
      · replace h := it_f h hc
        refine lv_bipush (v := (-21 : Int32)) hx hb d_V_calculate_145 (by decide) ?_
        exact rf_I (w := (fun z => wX g ca a z ++ tl)) h hx hb hr hlk hK hP hD hS d_V_calculate_147
  by_cases c0 : x1 = 0
  · replace h := it_t h c0
    refine lv_tableIn (tgt := 28) hx hb d_V_calculate_1 (by rw [c0]; decide) (by rw [c0]; decide) (by rw [c0]; rfl) (by decide) ?_
    refine lv_lload_n hx hb d_V_calculate_28 rfl (lv_at hl 2 rfl) ?_
    refine lv_lload hx hb d_V_calculate_29 (lv_at hl 3 rfl) ?_
    refine lv_ladd hx hb d_V_calculate_31 ?_
    refine lv_lstore (lv' := [(6, .long (x2 + x4)), (0, .ref (a 33)), (1, .int x1), (2, .long x2), (4, .long x4)]) hx hb d_V_calculate_32 hl (by decide) rfl (fun ls hl => ?_)
    refine lv_goto (tgt := 127) hx hb d_V_calculate_34 (by decide) ?_
    exact L127 σ (x2 + x4) H locs ls hP hD hS (lv_sub hl [1, 0] rfl) h
  replace h := it_f h c0
  by_cases c1 : x1 = 1
  · replace h := it_t h c1
    refine lv_tableIn (tgt := 37) hx hb d_V_calculate_1 (by rw [c1]; decide) (by rw [c1]; decide) (by rw [c1]; rfl) (by decide) ?_
    refine lv_lload_n hx hb d_V_calculate_37 rfl (lv_at hl 2 rfl) ?_
    refine lv_lload hx hb d_V_calculate_38 (lv_at hl 3 rfl) ?_
    refine lv_lsub hx hb d_V_calculate_40 ?_
    refine lv_lstore (lv' := [(6, .long (x2 - x4)), (0, .ref (a 33)), (1, .int x1), (2, .long x2), (4, .long x4)]) hx hb d_V_calculate_41 hl (by decide) rfl (fun ls hl => ?_)
    refine lv_goto (tgt := 127) hx hb d_V_calculate_43 (by decide) ?_
    exact L127 σ (x2 - x4) H locs ls hP hD hS (lv_sub hl [1, 0] rfl) h
  replace h := it_f h c1
  by_cases c2 : x1 = 2
  · replace h := it_t h c2
    refine lv_tableIn (tgt := 46) hx hb d_V_calculate_1 (by rw [c2]; decide) (by rw [c2]; decide) (by rw [c2]; rfl) (by decide) ?_
    refine lv_lload_n hx hb d_V_calculate_46 rfl (lv_at hl 2 rfl) ?_
    refine lv_lconst (v := (0 : Int64)) hx hb d_V_calculate_47 (by decide) ?_
    refine W.lcmp hx hb d_V_calculate_48 ?_
    have L90 : ∀ (σ : St) (x2 : Int64) (x4 : Int64) (H : Heap) (locs : List Loc) (ls : Array Slot), va_P D vCl (wX g ca a σ ++ tl) H → va_D A (wX g ca a σ ++ tl) → va_S A s.heap H locs → lv_has ls 8 [(0, .ref (a 33)), (2, .long x2), (4, .long x4)] → f_V_calculate_90 N σ x2 x4 = some (r, σ') → W p l e R s m args below meth c H locs 0 0 (MQ below (qb_QI D vCl (tyX ca) (wX g ca a σ' ++ tl) A r) args s 0 0 A) (F0 m 90 ls []) := by
      intro σ x2 x4 H locs ls hP hD hS hl h
      unfold f_V_calculate_90 at h
      refine lv_lload_n hx hb d_V_calculate_90 rfl (lv_at hl 1 rfl) ?_
      refine lv_lload hx hb d_V_calculate_91 (lv_at hl 2 rfl) ?_
      refine lv_lmul hx hb d_V_calculate_93 ?_
      refine lv_lstore (lv' := [(6, .long (x2 * x4)), (0, .ref (a 33)), (2, .long x2), (4, .long x4)]) hx hb d_V_calculate_94 hl (by decide) rfl (fun ls hl => ?_)
      refine lv_goto (tgt := 127) hx hb d_V_calculate_96 (by decide) ?_
      exact L127 σ (x2 * x4) H locs ls hP hD hS (lv_sub hl [1, 0] rfl) h
    refine lv_if_eq (tgt := 90) hx hb d_V_calculate_49 (by decide) (fun hc => ?_) (fun hc => ?_)
    · replace h := it_t h hc
      exact L90 σ x2 x4 H locs ls hP hD hS (lv_sub hl [0, 2, 3] rfl) h
    · replace h := it_f h hc
      refine lv_lload hx hb d_V_calculate_52 (lv_at hl 3 rfl) ?_
      refine lv_lconst (v := (0 : Int64)) hx hb d_V_calculate_54 (by decide) ?_
      refine W.lcmp hx hb d_V_calculate_55 ?_
      have L67 : ∀ (σ : St) (x2 : Int64) (x4 : Int64) (t0 : Int64) (H : Heap) (locs : List Loc) (ls : Array Slot), va_P D vCl (wX g ca a σ ++ tl) H → va_D A (wX g ca a σ ++ tl) → va_S A s.heap H locs → lv_has ls 8 [(0, .ref (a 33)), (2, .long x2), (4, .long x4)] → f_V_calculate_67 N σ x2 x4 t0 = some (r, σ') → W p l e R s m args below meth c H locs 0 0 (MQ below (qb_QI D vCl (tyX ca) (wX g ca a σ' ++ tl) A r) args s 0 0 A) (F0 m 67 ls [.long t0]) := by
        intro σ x2 x4 t0 H locs ls hP hD hS hl h
        unfold f_V_calculate_67 at h
        refine lv_ldc2 (v := (1000000000000000 : Int64)) hx hb hown (hB _ m_714) d_V_calculate_67 ?_
        refine lv_lload_n hx hb d_V_calculate_70 rfl (lv_at hl 1 rfl) ?_
        refine lv_lconst (v := (0 : Int64)) hx hb d_V_calculate_71 (by decide) ?_
        refine W.lcmp hx hb d_V_calculate_72 ?_
        have L82 : ∀ (σ : St) (x2 : Int64) (x4 : Int64) (t0 : Int64) (t1 : Int64) (t2 : Int64) (H : Heap) (locs : List Loc) (ls : Array Slot), va_P D vCl (wX g ca a σ ++ tl) H → va_D A (wX g ca a σ ++ tl) → va_S A s.heap H locs → lv_has ls 8 [(0, .ref (a 33)), (2, .long x2), (4, .long x4)] → f_V_calculate_82 N σ x2 x4 t0 t1 t2 = some (r, σ') → W p l e R s m args below meth c H locs 0 0 (MQ below (qb_QI D vCl (tyX ca) (wX g ca a σ' ++ tl) A r) args s 0 0 A) (F0 m 82 ls [.long t0, .long t1, .long t2]) := by
          intro σ x2 x4 t0 t1 t2 H locs ls hP hD hS hl h
          unfold f_V_calculate_82 at h
          obtain ⟨hi, h⟩ := ckzl_some h
          refine lv_ldiv hx hb d_V_calculate_82 hi ?_
          refine W.lcmp hx hb d_V_calculate_83 ?_
          refine lv_if_le (tgt := 90) hx hb d_V_calculate_84 (by decide) (fun hc => ?_) (fun hc => ?_)
          · replace h := it_t h hc
            exact L90 σ x2 x4 H locs ls hP hD hS (lv_sub hl [0, 1, 2] rfl) h
          · replace h := it_f h hc
            refine lv_bipush (v := (-21 : Int32)) hx hb d_V_calculate_87 (by decide) ?_
            exact rf_I (w := (fun z => wX g ca a z ++ tl)) h hx hb hr hlk hK hP hD hS d_V_calculate_89
        refine lv_if_ge (tgt := 81) hx hb d_V_calculate_73 (by decide) (fun hc => ?_) (fun hc => ?_)
        · replace h := it_t h hc
          refine lv_lload_n hx hb d_V_calculate_81 rfl (lv_at hl 1 rfl) ?_
          exact L82 σ x2 x4 x2 (1000000000000000 : Int64) t0 H locs ls hP hD hS (lv_sub hl [0, 1, 2] rfl) h
        · replace h := it_f h hc
          refine lv_lload_n hx hb d_V_calculate_76 rfl (lv_at hl 1 rfl) ?_
          refine lv_lneg hx hb d_V_calculate_77 ?_
          refine lv_goto (tgt := 82) hx hb d_V_calculate_78 (by decide) ?_
          exact L82 σ x2 x4 (-x2) (1000000000000000 : Int64) t0 H locs ls hP hD hS (lv_sub hl [0, 1, 2] rfl) h
      refine lv_if_ge (tgt := 65) hx hb d_V_calculate_56 (by decide) (fun hc => ?_) (fun hc => ?_)
      · replace h := it_t h hc
        refine lv_lload hx hb d_V_calculate_65 (lv_at hl 3 rfl) ?_
        exact L67 σ x2 x4 x4 H locs ls hP hD hS (lv_sub hl [0, 2, 3] rfl) h
      · replace h := it_f h hc
        refine lv_lload hx hb d_V_calculate_59 (lv_at hl 3 rfl) ?_
        refine lv_lneg hx hb d_V_calculate_61 ?_
        refine lv_goto (tgt := 67) hx hb d_V_calculate_62 (by decide) ?_
        exact L67 σ x2 x4 (-x4) H locs ls hP hD hS (lv_sub hl [0, 2, 3] rfl) h
  replace h := it_f h c2
  have n0 := lv_neT c0 (show (0 : Int32).toInt = 0 by decide)
  have n1 := lv_neT c1 (show (1 : Int32).toInt = 1 by decide)
  have n2 := lv_neT c2 (show (2 : Int32).toInt = 2 by decide)
  refine lv_tableOut (tgt := 99) hx hb d_V_calculate_1 (by omega) (by decide) ?_
  refine lv_lload hx hb d_V_calculate_99 (lv_at hl 3 rfl) ?_
  refine lv_lconst (v := (0 : Int64)) hx hb d_V_calculate_101 (by decide) ?_
  refine W.lcmp hx hb d_V_calculate_102 ?_
  refine lv_if_ne (tgt := 109) hx hb d_V_calculate_103 (by decide) (fun hc => ?_) (fun hc => ?_)
  · replace h := it_f h hc
    refine lv_iload_n hx hb d_V_calculate_109 rfl (lv_at hl 1 rfl) ?_
    refine lv_iconst (v := (3 : Int32)) hx hb d_V_calculate_110 (by decide) ?_
    have L125 : ∀ (σ : St) (t0 : Int64) (H : Heap) (locs : List Loc) (ls : Array Slot), va_P D vCl (wX g ca a σ ++ tl) H → va_D A (wX g ca a σ ++ tl) → va_S A s.heap H locs → lv_has ls 8 [(0, .ref (a 33))] → f_V_calculate_125 N σ t0 = some (r, σ') → W p l e R s m args below meth c H locs 0 0 (MQ below (qb_QI D vCl (tyX ca) (wX g ca a σ' ++ tl) A r) args s 0 0 A) (F0 m 125 ls [.long t0]) := by
      intro σ t0 H locs ls hP hD hS hl h
      unfold f_V_calculate_125 at h
      refine lv_lstore (lv' := [(6, .long t0), (0, .ref (a 33))]) hx hb d_V_calculate_125 hl (by decide) rfl (fun ls hl => ?_)
      exact L127 σ t0 H locs ls hP hD hS (lv_sub hl [1, 0] rfl) h
    refine lv_icmp_ne (tgt := 121) hx hb d_V_calculate_111 (by decide) (fun hc => ?_) (fun hc => ?_)
    · replace h := it_f h hc
      refine lv_lload_n hx hb d_V_calculate_121 rfl (lv_at hl 2 rfl) ?_
      refine lv_lload hx hb d_V_calculate_122 (lv_at hl 3 rfl) ?_
      obtain ⟨hi, h⟩ := ckzl_some h
      refine lv_lrem hx hb d_V_calculate_124 hi ?_
      exact L125 σ (x2 - x2 / x4 * x4) H locs ls hP hD hS (lv_sub hl [0] rfl) h
    · replace h := it_t h hc
      refine lv_lload_n hx hb d_V_calculate_114 rfl (lv_at hl 2 rfl) ?_
      refine lv_lload hx hb d_V_calculate_115 (lv_at hl 3 rfl) ?_
      obtain ⟨hi, h⟩ := ckzl_some h
      refine lv_ldiv hx hb d_V_calculate_117 hi ?_
      refine lv_goto (tgt := 125) hx hb d_V_calculate_118 (by decide) ?_
      exact L125 σ (x2 / x4) H locs ls hP hD hS (lv_sub hl [0] rfl) h
  · replace h := it_t h hc
    refine lv_bipush (v := (-20 : Int32)) hx hb d_V_calculate_106 (by decide) ?_
    exact rf_I (w := (fun z => wX g ca a z ++ tl)) h hx hb hr hlk hK hP hD hS d_V_calculate_108
set_option maxRecDepth 100000 in
set_option maxHeartbeats 4000000 in
theorem c_V_value_b (l : Launch) (D : va_G) (ca : Nat → ClassId) (g : Bool) (a : Nat → Nat) (tl : va_W) (N : Nat) (n : Nat) (RC : Nat → St → Int32 → Int32 → Option (Int32 × St)) (HR0 : ∀ (σ σ' : St) (x1 : Int32) (x2 : Int32) (r : Int32), RC 0 σ x1 x2 = some (r, σ') → CtI l y_V_value ws_V_value (rm_ev n) 0 0 D vCl (tyX ca) nwX [.ref (a 33), .int x1, .int x2] (wX g ca a σ ++ tl) (wX g ca a σ' ++ tl) r) (HR1 : ∀ (σ σ' : St) (x1 : Int32) (x2 : Int32) (r : Int32), RC 1 σ x1 x2 = some (r, σ') → CtI l y_V_truth ws_V_truth (rm_ev n) 0 0 D vCl (tyX ca) nwX [.ref (a 33), .int x1, .int x2] (wX g ca a σ ++ tl) (wX g ca a σ' ++ tl) r) (HR2 : ∀ (σ σ' : St) (x1 : Int32) (x2 : Int32) (r : Int32), RC 2 σ x1 x2 = some (r, σ') → CtI l y_V_operands ws_V_operands (rm_ev n) 0 0 D vCl (tyX ca) nwX [.ref (a 33), .int x1, .int x2] (wX g ca a σ ++ tl) (wX g ca a σ' ++ tl) r) (HR3 : ∀ (σ σ' : St) (x1 : Int32) (x2 : Int32) (r : Int32), RC 3 σ x1 x2 = some (r, σ') → CtI l y_V_junction ws_V_junction (rm_ev n) 0 0 D vCl (tyX ca) nwX [.ref (a 33), .int x1, .int x2] (wX g ca a σ ++ tl) (wX g ca a σ' ++ tl) r) (σ σ' : St) (x1 : Int32) (x2 : Int32) (r : Int32) (h : f_V_value_b N g RC σ x1 x2 = some (r, σ')) : CtI l y_V_value ws_V_value (rm_ev (n + 1)) 0 0 D vCl (tyX ca) nwX [.ref (a 33), .int x1, .int x2] (wX g ca a σ ++ tl) (wX g ca a σ' ++ tl) r := by
  refine en_I (ws' := BIG) (by decide +kernel) rfl (Nat.le_of_ble_eq_true rfl) ?_
  intro p e s m below meth c A ls R args H locs hR hx hb hr hlk hml hown hB hK hN hP hD hA hS hl
  have hl : lv_has ls 4 [(0, .ref (a 33)), (1, .int x1), (2, .int x2)] := hl
  unfold f_V_value_b at h
  refine lv_aload_n hx hb d_V_value_0 rfl (lv_at hl 0 rfl) ?_
  refine lv_lconst (v := (0 : Int64)) hx hb d_V_value_1 (by decide) ?_
  obtain ⟨s1, es1, h⟩ := nm_some h
  refine Xp_33_5 es1 hx hb hB hown (hB _ m_346) hK hP hD hS d_V_value_2 (fun H locs hP hD hS => ?_)
  refine lv_iload_n hx hb d_V_value_5 rfl (lv_at hl 2 rfl) ?_
  refine lv_bipush (v := (60 : Int32)) hx hb d_V_value_6 (by decide) ?_
  refine lv_icmp_ge (tgt := 22) hx hb d_V_value_8 (by decide) (fun hc => ?_) (fun hc => ?_)
  · replace h := it_t h hc
    refine lv_iconst (v := (0 : Int32)) hx hb d_V_value_22 (by decide) ?_
    exact rf_I (w := (fun z => wX g ca a z ++ tl)) h hx hb hr hlk hK hP hD hS d_V_value_23
  · replace h := it_f h hc
    refine lv_aload_n hx hb d_V_value_11 rfl (lv_at hl 0 rfl) ?_
    refine Xg_33_1 hx hb hB hown (hB _ m_340) hK hP d_V_value_12 ?_
    refine lv_iload_n hx hb d_V_value_15 rfl (lv_at hl 1 rfl) ?_
    obtain ⟨r2, s3, hr2, h⟩ := bd_some h
    refine go_VI (rest := []) ⟨hx, hb, hml, hown, hB⟩ nwX_ok (c_E_has l D ca g a tl N s1 s3 x1 r2 hr2) (cwx_V hB m_680 kw_E_has ⟨by rw [hR]; simp only [rm_ev, rm_E_has]; omega, by rw [hR]; simp only [rm_ev, rm_E_has]; omega⟩ rfl rfl) (va_recv hK hP (ci := 5) (q0 := 6) rfl rfl) hN hK hP hD hS hA rfl hl.1 rfl (Nat.le_of_ble_eq_true rfl) d_V_value_16 ⟨by rw [hR]; exact Nat.le_of_ble_eq_true rfl, by rw [hR]; exact Nat.le_of_ble_eq_true rfl⟩ (fun H locs hP hD hS => ?_)
    refine lv_if_ne (tgt := 24) hx hb d_V_value_19 (by decide) (fun hc => ?_) (fun hc => ?_)
    · replace h := it_f h hc
      refine lv_aload_n hx hb d_V_value_24 rfl (lv_at hl 0 rfl) ?_
      refine Xg_33_1 hx hb hB hown (hB _ m_340) hK hP d_V_value_25 ?_
      refine Xg_6_2 hx hb hB hown (hB _ m_138) hK hP d_V_value_28 ?_
      refine lv_iload_n hx hb d_V_value_31 rfl (lv_at hl 1 rfl) ?_
      obtain ⟨hi, h⟩ := ckb_some h
      refine Xa_7 hx hb hK hP hi d_V_value_32 ?_
      by_cases c13 : (ga s3 3 (x1).toNatClampNeg) = 13
      · replace h := it_t h c13
        refine lv_tableIn (tgt := 64) hx hb d_V_value_33 (by rw [c13]; decide) (by rw [c13]; decide) (by rw [c13]; rfl) (by decide) ?_
        refine lv_aload_n hx hb d_V_value_64 rfl (lv_at hl 0 rfl) ?_
        refine lv_aload_n hx hb d_V_value_65 rfl (lv_at hl 0 rfl) ?_
        refine Xg_33_1 hx hb hB hown (hB _ m_340) hK hP d_V_value_66 ?_
        refine Xg_6_3 hx hb hB hown (hB _ m_141) hK hP d_V_value_69 ?_
        refine lv_iload_n hx hb d_V_value_72 rfl (lv_at hl 1 rfl) ?_
        obtain ⟨hi, h⟩ := ckb_some h
        refine Xa_8 hx hb hK hP hi d_V_value_73 ?_
        obtain ⟨s4, es4, h⟩ := nm_some h
        refine Xp_33_5 es4 hx hb hB hown (hB _ m_346) hK hP hD hS d_V_value_74 (fun H locs hP hD hS => ?_)
        refine lv_iconst (v := (1 : Int32)) hx hb d_V_value_77 (by decide) ?_
        exact rf_I (w := (fun z => wX g ca a z ++ tl)) h hx hb hr hlk hK hP hD hS d_V_value_78
      replace h := it_f h c13
      by_cases c14 : (ga s3 3 (x1).toNatClampNeg) = 14
      · replace h := it_t h c14
        refine lv_tableIn (tgt := 79) hx hb d_V_value_33 (by rw [c14]; decide) (by rw [c14]; decide) (by rw [c14]; rfl) (by decide) ?_
        refine lv_iconst (v := (0 : Int32)) hx hb d_V_value_79 (by decide) ?_
        exact rf_I (w := (fun z => wX g ca a z ++ tl)) h hx hb hr hlk hK hP hD hS d_V_value_80
      replace h := it_f h c14
      by_cases c15 : (ga s3 3 (x1).toNatClampNeg) = 15
      · replace h := it_t h c15
        refine lv_tableIn (tgt := 81) hx hb d_V_value_33 (by rw [c15]; decide) (by rw [c15]; decide) (by rw [c15]; rfl) (by decide) ?_
        refine lv_aload_n hx hb d_V_value_81 rfl (lv_at hl 0 rfl) ?_
        refine lv_aload_n hx hb d_V_value_82 rfl (lv_at hl 0 rfl) ?_
        refine Xg_33_1 hx hb hB hown (hB _ m_340) hK hP d_V_value_83 ?_
        refine Xg_6_3 hx hb hB hown (hB _ m_141) hK hP d_V_value_86 ?_
        refine lv_iload_n hx hb d_V_value_89 rfl (lv_at hl 1 rfl) ?_
        obtain ⟨hi, h⟩ := ckb_some h
        refine Xa_8 hx hb hK hP hi d_V_value_90 ?_
        refine lv_l2i hx hb d_V_value_91 rfl ?_
        obtain ⟨r5, s6, hr5, h⟩ := bd_some h
        refine go_VI (rest := []) ⟨hx, hb, hml, hown, hB⟩ nwX_ok (c_V_lookUp l D ca g a tl N s3 s6 ((gb s3 1 (x1).toNatClampNeg)).toInt32 r5 hr5) (cwx_V hB m_690 kw_V_lookUp ⟨by rw [hR]; simp only [rm_ev, rm_V_lookUp]; omega, by rw [hR]; simp only [rm_ev, rm_V_lookUp]; omega⟩ rfl rfl) (va_recv hK hP (ci := 4) (q0 := 33) rfl rfl) hN hK hP hD hS hA rfl hl.1 rfl (Nat.le_of_ble_eq_true rfl) d_V_value_92 ⟨by rw [hR]; exact Nat.le_of_ble_eq_true rfl, by rw [hR]; exact Nat.le_of_ble_eq_true rfl⟩ (fun H locs hP hD hS => ?_)
        exact rf_I (w := (fun z => wX g ca a z ++ tl)) h hx hb hr hlk hK hP hD hS d_V_value_95
      replace h := it_f h c15
      by_cases c16 : (ga s3 3 (x1).toNatClampNeg) = 16
      · replace h := it_t h c16
        refine lv_tableIn (tgt := 96) hx hb d_V_value_33 (by rw [c16]; decide) (by rw [c16]; decide) (by rw [c16]; rfl) (by decide) ?_
        refine lv_aload_n hx hb d_V_value_96 rfl (lv_at hl 0 rfl) ?_
        refine lv_aload_n hx hb d_V_value_97 rfl (lv_at hl 0 rfl) ?_
        refine Xg_33_1 hx hb hB hown (hB _ m_340) hK hP d_V_value_98 ?_
        refine Xg_6_3 hx hb hB hown (hB _ m_141) hK hP d_V_value_101 ?_
        refine lv_iload_n hx hb d_V_value_104 rfl (lv_at hl 1 rfl) ?_
        obtain ⟨hi, h⟩ := ckb_some h
        refine Xa_8 hx hb hK hP hi d_V_value_105 ?_
        refine lv_l2i hx hb d_V_value_106 rfl ?_
        obtain ⟨r7, s8, hr7, h⟩ := bd_some h
        refine go_VI (rest := []) ⟨hx, hb, hml, hown, hB⟩ nwX_ok (c_V_ofGroup l D ca g a tl N s3 s8 ((gb s3 1 (x1).toNatClampNeg)).toInt32 r7 hr7) (cwx_V hB m_694 kw_V_ofGroup ⟨by rw [hR]; simp only [rm_ev, rm_V_ofGroup]; omega, by rw [hR]; simp only [rm_ev, rm_V_ofGroup]; omega⟩ rfl rfl) (va_recv hK hP (ci := 4) (q0 := 33) rfl rfl) hN hK hP hD hS hA rfl hl.1 rfl (Nat.le_of_ble_eq_true rfl) d_V_value_107 ⟨by rw [hR]; exact Nat.le_of_ble_eq_true rfl, by rw [hR]; exact Nat.le_of_ble_eq_true rfl⟩ (fun H locs hP hD hS => ?_)
        exact rf_I (w := (fun z => wX g ca a z ++ tl)) h hx hb hr hlk hK hP hD hS d_V_value_110
      replace h := it_f h c16
      have n13 := lv_neT c13 (show (13 : Int32).toInt = 13 by decide)
      have n14 := lv_neT c14 (show (14 : Int32).toInt = 14 by decide)
      have n15 := lv_neT c15 (show (15 : Int32).toInt = 15 by decide)
      have n16 := lv_neT c16 (show (16 : Int32).toInt = 16 by decide)
      refine lv_tableOut (tgt := 111) hx hb d_V_value_33 (by omega) (by decide) ?_
      refine lv_aload_n hx hb d_V_value_111 rfl (lv_at hl 0 rfl) ?_
      refine lv_iload_n hx hb d_V_value_112 rfl (lv_at hl 1 rfl) ?_
      refine lv_iload_n hx hb d_V_value_113 rfl (lv_at hl 2 rfl) ?_
      obtain ⟨r9, s10, hr9, h⟩ := bd_some h
      refine go_VI (rest := []) ⟨hx, hb, hml, hown, hB⟩ nwX_ok (HR2 s3 s10 x1 x2 r9 hr9) (cwx_V hB m_706 kw_V_operands ⟨by rw [hR]; simp only [rm_ev]; omega, by rw [hR]; simp only [rm_ev]; omega⟩ rfl rfl) (va_recv hK hP (ci := 4) (q0 := 33) rfl rfl) hN hK hP hD hS hA rfl hl.1 rfl (Nat.le_of_ble_eq_true rfl) d_V_value_114 ⟨by rw [hR]; exact Nat.le_of_ble_eq_true rfl, by rw [hR]; exact Nat.le_of_ble_eq_true rfl⟩ (fun H locs hP hD hS => ?_)
      refine lv_istore_n (lv' := [(3, .int r9), (0, .ref (a 33)), (1, .int x1), (2, .int x2)]) hx hb d_V_value_117 rfl hl (by decide) rfl (fun ls hl => ?_)
      refine lv_iload_n hx hb d_V_value_118 rfl (lv_at hl 0 rfl) ?_
      refine lv_iconst (v := (1 : Int32)) hx hb d_V_value_119 (by decide) ?_
      refine lv_icmp_ne (tgt := 147) hx hb d_V_value_120 (by decide) (fun hc => ?_) (fun hc => ?_)
      · replace h := it_f h hc
        refine lv_iload_n hx hb d_V_value_147 rfl (lv_at hl 0 rfl) ?_
        exact rf_I (w := (fun z => wX g ca a z ++ tl)) h hx hb hr hlk hK hP hD hS d_V_value_148
      · replace h := it_t h hc
        refine lv_aload_n hx hb d_V_value_123 rfl (lv_at hl 1 rfl) ?_
        refine lv_aload_n hx hb d_V_value_124 rfl (lv_at hl 1 rfl) ?_
        refine Xg_33_1 hx hb hB hown (hB _ m_340) hK hP d_V_value_125 ?_
        refine Xg_6_2 hx hb hB hown (hB _ m_138) hK hP d_V_value_128 ?_
        refine lv_iload_n hx hb d_V_value_131 rfl (lv_at hl 2 rfl) ?_
        obtain ⟨hi, h⟩ := ckb_some h
        refine Xa_7 hx hb hK hP hi d_V_value_132 ?_
        refine lv_aload_n hx hb d_V_value_133 rfl (lv_at hl 1 rfl) ?_
        refine Xg_33_6 hx hb hB hown (hB _ m_348) hK hP d_V_value_134 ?_
        refine lv_aload_n hx hb d_V_value_137 rfl (lv_at hl 1 rfl) ?_
        refine Xg_33_5 hx hb hB hown (hB _ m_346) hK hP d_V_value_138 ?_
        obtain ⟨r11, s12, hr11, h⟩ := bd_some h
        refine go_VI (rest := []) ⟨hx, hb, hml, hown, hB⟩ nwX_ok (c_V_calculate l D ca g a tl N s10 s12 (ga s10 3 (x1).toNatClampNeg) (gl s10 1) (gl s10 0) r11 hr11) (cwx_V hB m_710 kw_V_calculate ⟨by rw [hR]; simp only [rm_ev, rm_V_calculate]; omega, by rw [hR]; simp only [rm_ev, rm_V_calculate]; omega⟩ rfl rfl) (va_recv hK hP (ci := 4) (q0 := 33) rfl rfl) hN hK hP hD hS hA rfl hl.1 rfl (Nat.le_of_ble_eq_true rfl) d_V_value_141 ⟨by rw [hR]; exact Nat.le_of_ble_eq_true rfl, by rw [hR]; exact Nat.le_of_ble_eq_true rfl⟩ (fun H locs hP hD hS => ?_)
        refine lv_goto (tgt := 148) hx hb d_V_value_144 (by decide) ?_
        exact rf_I (w := (fun z => wX g ca a z ++ tl)) h hx hb hr hlk hK hP hD hS d_V_value_148
    · replace h := it_t h hc
      refine lv_iconst (v := (0 : Int32)) hx hb d_V_value_22 (by decide) ?_
      exact rf_I (w := (fun z => wX g ca a z ++ tl)) h hx hb hr hlk hK hP hD hS d_V_value_23
set_option maxRecDepth 100000 in
set_option maxHeartbeats 4000000 in
theorem c_V_compares (l : Launch) (D : va_G) (ca : Nat → ClassId) (g : Bool) (a : Nat → Nat) (tl : va_W) (N : Nat) (σ σ' : St) (x0 : Int32) (x1 : Int64) (x3 : Int64) (r : Int32) (h : f_V_compares N σ x0 x1 x3 = some (r, σ')) : CtI l y_V_compares ws_V_compares rm_V_compares 0 0 D vCl (tyX ca) nwX [.int x0, .long x1, .long x3] (wX g ca a σ ++ tl) (wX g ca a σ' ++ tl) r := by
  refine en_Z (ws' := BIG) (by decide +kernel) rfl (Nat.le_of_ble_eq_true rfl) ?_
  intro p e s m below meth c A ls R args H locs hR hx hb hr hlk hml hown hB hK hN hP hD hA hS hl
  have hl : lv_has ls 5 [(0, .int x0), (1, .long x1), (3, .long x3)] := hl
  unfold f_V_compares at h
  refine lv_iload_n hx hb d_V_compares_0 rfl (lv_at hl 0 rfl) ?_
  by_cases c5 : x0 = 5
  · replace h := it_t h c5
    refine lv_tableIn (tgt := 28) hx hb d_V_compares_1 (by rw [c5]; decide) (by rw [c5]; decide) (by rw [c5]; rfl) (by decide) ?_
    refine lv_lload_n hx hb d_V_compares_28 rfl (lv_at hl 1 rfl) ?_
    refine lv_lload_n hx hb d_V_compares_29 rfl (lv_at hl 2 rfl) ?_
    refine W.lcmp hx hb d_V_compares_30 ?_
    refine lv_if_ne (tgt := 38) hx hb d_V_compares_31 (by decide) (fun hc => ?_) (fun hc => ?_)
    · replace h := it_f h hc
      refine lv_iconst (v := (0 : Int32)) hx hb d_V_compares_38 (by decide) ?_
      exact rf_Z (w := (fun z => wX g ca a z ++ tl)) h hx hb hr hlk hK hP hD hS rfl d_V_compares_39
    · replace h := it_t h hc
      refine lv_iconst (v := (1 : Int32)) hx hb d_V_compares_34 (by decide) ?_
      refine lv_goto (tgt := 39) hx hb d_V_compares_35 (by decide) ?_
      exact rf_Z (w := (fun z => wX g ca a z ++ tl)) h hx hb hr hlk hK hP hD hS rfl d_V_compares_39
  replace h := it_f h c5
  by_cases c6 : x0 = 6
  · replace h := it_t h c6
    refine lv_tableIn (tgt := 40) hx hb d_V_compares_1 (by rw [c6]; decide) (by rw [c6]; decide) (by rw [c6]; rfl) (by decide) ?_
    refine lv_lload_n hx hb d_V_compares_40 rfl (lv_at hl 1 rfl) ?_
    refine lv_lload_n hx hb d_V_compares_41 rfl (lv_at hl 2 rfl) ?_
    refine W.lcmp hx hb d_V_compares_42 ?_
    refine lv_if_eq (tgt := 50) hx hb d_V_compares_43 (by decide) (fun hc => ?_) (fun hc => ?_)
    · replace h := it_t h hc
      refine lv_iconst (v := (0 : Int32)) hx hb d_V_compares_50 (by decide) ?_
      exact rf_Z (w := (fun z => wX g ca a z ++ tl)) h hx hb hr hlk hK hP hD hS rfl d_V_compares_51
    · replace h := it_f h hc
      refine lv_iconst (v := (1 : Int32)) hx hb d_V_compares_46 (by decide) ?_
      refine lv_goto (tgt := 51) hx hb d_V_compares_47 (by decide) ?_
      exact rf_Z (w := (fun z => wX g ca a z ++ tl)) h hx hb hr hlk hK hP hD hS rfl d_V_compares_51
  replace h := it_f h c6
  by_cases c7 : x0 = 7
  · replace h := it_t h c7
    refine lv_tableIn (tgt := 52) hx hb d_V_compares_1 (by rw [c7]; decide) (by rw [c7]; decide) (by rw [c7]; rfl) (by decide) ?_
    refine lv_lload_n hx hb d_V_compares_52 rfl (lv_at hl 1 rfl) ?_
    refine lv_lload_n hx hb d_V_compares_53 rfl (lv_at hl 2 rfl) ?_
    refine W.lcmp hx hb d_V_compares_54 ?_
    refine lv_if_ge (tgt := 62) hx hb d_V_compares_55 (by decide) (fun hc => ?_) (fun hc => ?_)
    · replace h := it_t h hc
      refine lv_iconst (v := (0 : Int32)) hx hb d_V_compares_62 (by decide) ?_
      exact rf_Z (w := (fun z => wX g ca a z ++ tl)) h hx hb hr hlk hK hP hD hS rfl d_V_compares_63
    · replace h := it_f h hc
      refine lv_iconst (v := (1 : Int32)) hx hb d_V_compares_58 (by decide) ?_
      refine lv_goto (tgt := 63) hx hb d_V_compares_59 (by decide) ?_
      exact rf_Z (w := (fun z => wX g ca a z ++ tl)) h hx hb hr hlk hK hP hD hS rfl d_V_compares_63
  replace h := it_f h c7
  have n5 := lv_neT c5 (show (5 : Int32).toInt = 5 by decide)
  have n6 := lv_neT c6 (show (6 : Int32).toInt = 6 by decide)
  have n7 := lv_neT c7 (show (7 : Int32).toInt = 7 by decide)
  refine lv_tableOut (tgt := 64) hx hb d_V_compares_1 (by omega) (by decide) ?_
  refine lv_lload_n hx hb d_V_compares_64 rfl (lv_at hl 1 rfl) ?_
  refine lv_lload_n hx hb d_V_compares_65 rfl (lv_at hl 2 rfl) ?_
  refine W.lcmp hx hb d_V_compares_66 ?_
  refine lv_if_gt (tgt := 74) hx hb d_V_compares_67 (by decide) (fun hc => ?_) (fun hc => ?_)
  · replace h := it_t h hc
    refine lv_iconst (v := (0 : Int32)) hx hb d_V_compares_74 (by decide) ?_
    exact rf_Z (w := (fun z => wX g ca a z ++ tl)) h hx hb hr hlk hK hP hD hS rfl d_V_compares_75
  · replace h := it_f h hc
    refine lv_iconst (v := (1 : Int32)) hx hb d_V_compares_70 (by decide) ?_
    refine lv_goto (tgt := 75) hx hb d_V_compares_71 (by decide) ?_
    exact rf_Z (w := (fun z => wX g ca a z ++ tl)) h hx hb hr hlk hK hP hD hS rfl d_V_compares_75
set_option maxRecDepth 100000 in
set_option maxHeartbeats 4000000 in
theorem c_V_truth_b (l : Launch) (D : va_G) (ca : Nat → ClassId) (g : Bool) (a : Nat → Nat) (tl : va_W) (N : Nat) (n : Nat) (RC : Nat → St → Int32 → Int32 → Option (Int32 × St)) (HR0 : ∀ (σ σ' : St) (x1 : Int32) (x2 : Int32) (r : Int32), RC 0 σ x1 x2 = some (r, σ') → CtI l y_V_value ws_V_value (rm_ev n) 0 0 D vCl (tyX ca) nwX [.ref (a 33), .int x1, .int x2] (wX g ca a σ ++ tl) (wX g ca a σ' ++ tl) r) (HR1 : ∀ (σ σ' : St) (x1 : Int32) (x2 : Int32) (r : Int32), RC 1 σ x1 x2 = some (r, σ') → CtI l y_V_truth ws_V_truth (rm_ev n) 0 0 D vCl (tyX ca) nwX [.ref (a 33), .int x1, .int x2] (wX g ca a σ ++ tl) (wX g ca a σ' ++ tl) r) (HR2 : ∀ (σ σ' : St) (x1 : Int32) (x2 : Int32) (r : Int32), RC 2 σ x1 x2 = some (r, σ') → CtI l y_V_operands ws_V_operands (rm_ev n) 0 0 D vCl (tyX ca) nwX [.ref (a 33), .int x1, .int x2] (wX g ca a σ ++ tl) (wX g ca a σ' ++ tl) r) (HR3 : ∀ (σ σ' : St) (x1 : Int32) (x2 : Int32) (r : Int32), RC 3 σ x1 x2 = some (r, σ') → CtI l y_V_junction ws_V_junction (rm_ev n) 0 0 D vCl (tyX ca) nwX [.ref (a 33), .int x1, .int x2] (wX g ca a σ ++ tl) (wX g ca a σ' ++ tl) r) (σ σ' : St) (x1 : Int32) (x2 : Int32) (r : Int32) (h : f_V_truth_b N g RC σ x1 x2 = some (r, σ')) : CtI l y_V_truth ws_V_truth (rm_ev (n + 1)) 0 0 D vCl (tyX ca) nwX [.ref (a 33), .int x1, .int x2] (wX g ca a σ ++ tl) (wX g ca a σ' ++ tl) r := by
  refine en_I (ws' := BIG) (by decide +kernel) rfl (Nat.le_of_ble_eq_true rfl) ?_
  intro p e s m below meth c A ls R args H locs hR hx hb hr hlk hml hown hB hK hN hP hD hA hS hl
  have hl : lv_has ls 5 [(0, .ref (a 33)), (1, .int x1), (2, .int x2)] := hl
  unfold f_V_truth_b at h
  refine lv_iload_n hx hb d_V_truth_0 rfl (lv_at hl 2 rfl) ?_
  refine lv_bipush (v := (60 : Int32)) hx hb d_V_truth_1 (by decide) ?_
  refine lv_icmp_ge (tgt := 17) hx hb d_V_truth_3 (by decide) (fun hc => ?_) (fun hc => ?_)
  · replace h := it_t h hc
    refine lv_iconst (v := (2 : Int32)) hx hb d_V_truth_17 (by decide) ?_
    exact rf_I (w := (fun z => wX g ca a z ++ tl)) h hx hb hr hlk hK hP hD hS d_V_truth_18
  · replace h := it_f h hc
    refine lv_aload_n hx hb d_V_truth_6 rfl (lv_at hl 0 rfl) ?_
    refine Xg_33_1 hx hb hB hown (hB _ m_340) hK hP d_V_truth_7 ?_
    refine lv_iload_n hx hb d_V_truth_10 rfl (lv_at hl 1 rfl) ?_
    obtain ⟨r1, s2, hr1, h⟩ := bd_some h
    refine go_VI (rest := []) ⟨hx, hb, hml, hown, hB⟩ nwX_ok (c_E_has l D ca g a tl N σ s2 x1 r1 hr1) (cwx_V hB m_680 kw_E_has ⟨by rw [hR]; simp only [rm_ev, rm_E_has]; omega, by rw [hR]; simp only [rm_ev, rm_E_has]; omega⟩ rfl rfl) (va_recv hK hP (ci := 5) (q0 := 6) rfl rfl) hN hK hP hD hS hA rfl hl.1 rfl (Nat.le_of_ble_eq_true rfl) d_V_truth_11 ⟨by rw [hR]; exact Nat.le_of_ble_eq_true rfl, by rw [hR]; exact Nat.le_of_ble_eq_true rfl⟩ (fun H locs hP hD hS => ?_)
    refine lv_if_ne (tgt := 19) hx hb d_V_truth_14 (by decide) (fun hc => ?_) (fun hc => ?_)
    · replace h := it_f h hc
      refine lv_aload_n hx hb d_V_truth_19 rfl (lv_at hl 0 rfl) ?_
      refine Xg_33_1 hx hb hB hown (hB _ m_340) hK hP d_V_truth_20 ?_
      refine Xg_6_2 hx hb hB hown (hB _ m_138) hK hP d_V_truth_23 ?_
      refine lv_iload_n hx hb d_V_truth_26 rfl (lv_at hl 1 rfl) ?_
      obtain ⟨hi, h⟩ := ckb_some h
      refine Xa_7 hx hb hK hP hi d_V_truth_27 ?_
      refine lv_istore_n (lv' := [(3, .int (ga s2 3 (x1).toNatClampNeg)), (0, .ref (a 33)), (1, .int x1), (2, .int x2)]) hx hb d_V_truth_28 rfl hl (by decide) rfl (fun ls hl => ?_)
      refine lv_iload_n hx hb d_V_truth_29 rfl (lv_at hl 0 rfl) ?_
      refine lv_bipush (v := (9 : Int32)) hx hb d_V_truth_30 (by decide) ?_
      have L41 : ∀ (σ : St) (x1 : Int32) (x2 : Int32) (H : Heap) (locs : List Loc) (ls : Array Slot), va_P D vCl (wX g ca a σ ++ tl) H → va_D A (wX g ca a σ ++ tl) → va_S A s.heap H locs → lv_has ls 5 [(0, .ref (a 33)), (1, .int x1), (2, .int x2)] → f_V_truth_41 N g RC σ x1 x2 = some (r, σ') → W p l e R s m args below meth c H locs 0 0 (MQ below (qb_QI D vCl (tyX ca) (wX g ca a σ' ++ tl) A r) args s 0 0 A) (F0 m 41 ls []) := by
        intro σ x1 x2 H locs ls hP hD hS hl h
        unfold f_V_truth_41 at h
        refine lv_aload_n hx hb d_V_truth_41 rfl (lv_at hl 0 rfl) ?_
        refine lv_iload_n hx hb d_V_truth_42 rfl (lv_at hl 1 rfl) ?_
        refine lv_iload_n hx hb d_V_truth_43 rfl (lv_at hl 2 rfl) ?_
        obtain ⟨r3, s4, hr3, h⟩ := bd_some h
        refine go_VI (rest := []) ⟨hx, hb, hml, hown, hB⟩ nwX_ok (HR3 σ s4 x1 x2 r3 hr3) (cwx_V hB m_681 kw_V_junction ⟨by rw [hR]; simp only [rm_ev]; omega, by rw [hR]; simp only [rm_ev]; omega⟩ rfl rfl) (va_recv hK hP (ci := 4) (q0 := 33) rfl rfl) hN hK hP hD hS hA rfl hl.1 rfl (Nat.le_of_ble_eq_true rfl) d_V_truth_44 ⟨by rw [hR]; exact Nat.le_of_ble_eq_true rfl, by rw [hR]; exact Nat.le_of_ble_eq_true rfl⟩ (fun H locs hP hD hS => ?_)
        exact rf_I (w := (fun z => wX g ca a z ++ tl)) h hx hb hr hlk hK hP hD hS d_V_truth_47
      refine lv_icmp_eq (tgt := 41) hx hb d_V_truth_32 (by decide) (fun hc => ?_) (fun hc => ?_)
      · replace h := it_t h hc
        exact L41 s2 x1 x2 H locs ls hP hD hS (lv_sub hl [1, 2, 3] rfl) h
      · replace h := it_f h hc
        refine lv_iload_n hx hb d_V_truth_35 rfl (lv_at hl 0 rfl) ?_
        refine lv_bipush (v := (10 : Int32)) hx hb d_V_truth_36 (by decide) ?_
        refine lv_icmp_ne (tgt := 48) hx hb d_V_truth_38 (by decide) (fun hc => ?_) (fun hc => ?_)
        · replace h := it_f h hc
          refine lv_iload_n hx hb d_V_truth_48 rfl (lv_at hl 0 rfl) ?_
          refine lv_bipush (v := (11 : Int32)) hx hb d_V_truth_49 (by decide) ?_
          refine lv_icmp_ne (tgt := 94) hx hb d_V_truth_51 (by decide) (fun hc => ?_) (fun hc => ?_)
          · replace h := it_f h hc
            refine lv_iload_n hx hb d_V_truth_94 rfl (lv_at hl 0 rfl) ?_
            refine lv_bipush (v := (12 : Int32)) hx hb d_V_truth_95 (by decide) ?_
            refine lv_icmp_ne (tgt := 139) hx hb d_V_truth_97 (by decide) (fun hc => ?_) (fun hc => ?_)
            · replace h := it_f h hc
              refine lv_aload_n hx hb d_V_truth_139 rfl (lv_at hl 1 rfl) ?_
              refine lv_iload_n hx hb d_V_truth_140 rfl (lv_at hl 2 rfl) ?_
              refine lv_iload_n hx hb d_V_truth_141 rfl (lv_at hl 3 rfl) ?_
              obtain ⟨r5, s6, hr5, h⟩ := bd_some h
              refine go_VI (rest := []) ⟨hx, hb, hml, hown, hB⟩ nwX_ok (HR2 s2 s6 x1 x2 r5 hr5) (cwx_V hB m_706 kw_V_operands ⟨by rw [hR]; simp only [rm_ev]; omega, by rw [hR]; simp only [rm_ev]; omega⟩ rfl rfl) (va_recv hK hP (ci := 4) (q0 := 33) rfl rfl) hN hK hP hD hS hA rfl hl.1 rfl (Nat.le_of_ble_eq_true rfl) d_V_truth_142 ⟨by rw [hR]; exact Nat.le_of_ble_eq_true rfl, by rw [hR]; exact Nat.le_of_ble_eq_true rfl⟩ (fun H locs hP hD hS => ?_)
              refine lv_istore (lv' := [(4, .int r5), (3, .int (ga s2 3 (x1).toNatClampNeg)), (0, .ref (a 33)), (1, .int x1), (2, .int x2)]) hx hb d_V_truth_145 hl (by decide) rfl (fun ls hl => ?_)
              refine lv_iload hx hb d_V_truth_147 (lv_at hl 0 rfl) ?_
              refine lv_if_ge (tgt := 157) hx hb d_V_truth_149 (by decide) (fun hc => ?_) (fun hc => ?_)
              · replace h := it_t h hc
                refine lv_iload hx hb d_V_truth_157 (lv_at hl 0 rfl) ?_
                refine lv_if_ne (tgt := 166) hx hb d_V_truth_159 (by decide) (fun hc => ?_) (fun hc => ?_)
                · replace h := it_f h hc
                  refine lv_iload_n hx hb d_V_truth_166 rfl (lv_at hl 1 rfl) ?_
                  refine lv_aload_n hx hb d_V_truth_167 rfl (lv_at hl 2 rfl) ?_
                  refine Xg_33_6 hx hb hB hown (hB _ m_348) hK hP d_V_truth_168 ?_
                  refine lv_aload_n hx hb d_V_truth_171 rfl (lv_at hl 2 rfl) ?_
                  refine Xg_33_5 hx hb hB hown (hB _ m_346) hK hP d_V_truth_172 ?_
                  obtain ⟨r7, s8, hr7, h⟩ := bd_some h
                  refine go_SI (rest := []) ⟨hx, hb, hml, hown, hB⟩ nwX_ok (c_V_compares l D ca g a tl N s6 s8 (ga s2 3 (x1).toNatClampNeg) (gl s6 1) (gl s6 0) r7 hr7) (cwx_S hB m_716 kw_V_compares ⟨by rw [hR]; simp only [rm_ev, rm_V_compares]; omega, by rw [hR]; simp only [rm_ev, rm_V_compares]; omega⟩ rfl rfl) hN hK hP hD hS hA rfl hl.1 rfl (Nat.le_of_ble_eq_true rfl) d_V_truth_175 ⟨by rw [hR]; exact Nat.le_of_ble_eq_true rfl, by rw [hR]; exact Nat.le_of_ble_eq_true rfl⟩ (fun H locs hP hD hS => ?_)
                  refine lv_if_eq (tgt := 185) hx hb d_V_truth_178 (by decide) (fun hc => ?_) (fun hc => ?_)
                  · replace h := it_t h hc
                    refine lv_iconst (v := (0 : Int32)) hx hb d_V_truth_185 (by decide) ?_
                    exact rf_I (w := (fun z => wX g ca a z ++ tl)) h hx hb hr hlk hK hP hD hS d_V_truth_186
                  · replace h := it_f h hc
                    refine lv_iconst (v := (1 : Int32)) hx hb d_V_truth_181 (by decide) ?_
                    refine lv_goto (tgt := 186) hx hb d_V_truth_182 (by decide) ?_
                    exact rf_I (w := (fun z => wX g ca a z ++ tl)) h hx hb hr hlk hK hP hD hS d_V_truth_186
                · replace h := it_t h hc
                  refine lv_iconst (v := (2 : Int32)) hx hb d_V_truth_162 (by decide) ?_
                  refine lv_goto (tgt := 186) hx hb d_V_truth_163 (by decide) ?_
                  exact rf_I (w := (fun z => wX g ca a z ++ tl)) h hx hb hr hlk hK hP hD hS d_V_truth_186
              · replace h := it_f h hc
                refine lv_iload hx hb d_V_truth_152 (lv_at hl 0 rfl) ?_
                refine lv_goto (tgt := 186) hx hb d_V_truth_154 (by decide) ?_
                exact rf_I (w := (fun z => wX g ca a z ++ tl)) h hx hb hr hlk hK hP hD hS d_V_truth_186
            · replace h := it_t h hc
              refine lv_aload_n hx hb d_V_truth_100 rfl (lv_at hl 1 rfl) ?_
              refine lv_aload_n hx hb d_V_truth_101 rfl (lv_at hl 1 rfl) ?_
              refine Xg_33_1 hx hb hB hown (hB _ m_340) hK hP d_V_truth_102 ?_
              refine Xg_6_4 hx hb hB hown (hB _ m_143) hK hP d_V_truth_105 ?_
              refine lv_iload_n hx hb d_V_truth_108 rfl (lv_at hl 2 rfl) ?_
              obtain ⟨hi, h⟩ := ckb_some h
              refine Xa_9 hx hb hK hP hi d_V_truth_109 ?_
              refine lv_iload_n hx hb d_V_truth_110 rfl (lv_at hl 3 rfl) ?_
              refine lv_iconst (v := (1 : Int32)) hx hb d_V_truth_111 (by decide) ?_
              refine lv_iadd hx hb d_V_truth_112 ?_
              obtain ⟨r9, s10, hr9, h⟩ := bd_some h
              refine go_VI (rest := []) ⟨hx, hb, hml, hown, hB⟩ nwX_ok (HR0 s2 s10 (ga s2 4 (x1).toNatClampNeg) (x2 + (1 : Int32)) r9 hr9) (cwx_V hB m_686 kw_V_value ⟨by rw [hR]; simp only [rm_ev]; omega, by rw [hR]; simp only [rm_ev]; omega⟩ rfl rfl) (va_recv hK hP (ci := 4) (q0 := 33) rfl rfl) hN hK hP hD hS hA rfl hl.1 rfl (Nat.le_of_ble_eq_true rfl) d_V_truth_113 ⟨by rw [hR]; exact Nat.le_of_ble_eq_true rfl, by rw [hR]; exact Nat.le_of_ble_eq_true rfl⟩ (fun H locs hP hD hS => ?_)
              refine lv_istore (lv' := [(4, .int r9), (3, .int (ga s2 3 (x1).toNatClampNeg)), (0, .ref (a 33)), (1, .int x1), (2, .int x2)]) hx hb d_V_truth_116 hl (by decide) rfl (fun ls hl => ?_)
              refine lv_iload hx hb d_V_truth_118 (lv_at hl 0 rfl) ?_
              refine lv_if_ge (tgt := 128) hx hb d_V_truth_120 (by decide) (fun hc => ?_) (fun hc => ?_)
              · replace h := it_t h hc
                refine lv_iload hx hb d_V_truth_128 (lv_at hl 0 rfl) ?_
                refine lv_if_ne (tgt := 137) hx hb d_V_truth_130 (by decide) (fun hc => ?_) (fun hc => ?_)
                · replace h := it_f h hc
                  refine lv_iconst (v := (0 : Int32)) hx hb d_V_truth_137 (by decide) ?_
                  exact rf_I (w := (fun z => wX g ca a z ++ tl)) h hx hb hr hlk hK hP hD hS d_V_truth_138
                · replace h := it_t h hc
                  refine lv_iconst (v := (1 : Int32)) hx hb d_V_truth_133 (by decide) ?_
                  refine lv_goto (tgt := 138) hx hb d_V_truth_134 (by decide) ?_
                  exact rf_I (w := (fun z => wX g ca a z ++ tl)) h hx hb hr hlk hK hP hD hS d_V_truth_138
              · replace h := it_f h hc
                refine lv_iload hx hb d_V_truth_123 (lv_at hl 0 rfl) ?_
                refine lv_goto (tgt := 138) hx hb d_V_truth_125 (by decide) ?_
                exact rf_I (w := (fun z => wX g ca a z ++ tl)) h hx hb hr hlk hK hP hD hS d_V_truth_138
          · replace h := it_t h hc
            refine lv_aload_n hx hb d_V_truth_54 rfl (lv_at hl 1 rfl) ?_
            refine lv_aload_n hx hb d_V_truth_55 rfl (lv_at hl 1 rfl) ?_
            refine Xg_33_1 hx hb hB hown (hB _ m_340) hK hP d_V_truth_56 ?_
            refine Xg_6_4 hx hb hB hown (hB _ m_143) hK hP d_V_truth_59 ?_
            refine lv_iload_n hx hb d_V_truth_62 rfl (lv_at hl 2 rfl) ?_
            obtain ⟨hi, h⟩ := ckb_some h
            refine Xa_9 hx hb hK hP hi d_V_truth_63 ?_
            refine lv_iload_n hx hb d_V_truth_64 rfl (lv_at hl 3 rfl) ?_
            refine lv_iconst (v := (1 : Int32)) hx hb d_V_truth_65 (by decide) ?_
            refine lv_iadd hx hb d_V_truth_66 ?_
            obtain ⟨r11, s12, hr11, h⟩ := bd_some h
            refine go_VI (rest := []) ⟨hx, hb, hml, hown, hB⟩ nwX_ok (HR1 s2 s12 (ga s2 4 (x1).toNatClampNeg) (x2 + (1 : Int32)) r11 hr11) (cwx_V hB m_685 kw_V_truth ⟨by rw [hR]; simp only [rm_ev]; omega, by rw [hR]; simp only [rm_ev]; omega⟩ rfl rfl) (va_recv hK hP (ci := 4) (q0 := 33) rfl rfl) hN hK hP hD hS hA rfl hl.1 rfl (Nat.le_of_ble_eq_true rfl) d_V_truth_67 ⟨by rw [hR]; exact Nat.le_of_ble_eq_true rfl, by rw [hR]; exact Nat.le_of_ble_eq_true rfl⟩ (fun H locs hP hD hS => ?_)
            refine lv_istore (lv' := [(4, .int r11), (3, .int (ga s2 3 (x1).toNatClampNeg)), (0, .ref (a 33)), (1, .int x1), (2, .int x2)]) hx hb d_V_truth_70 hl (by decide) rfl (fun ls hl => ?_)
            refine lv_iload hx hb d_V_truth_72 (lv_at hl 0 rfl) ?_
            refine lv_iconst (v := (1 : Int32)) hx hb d_V_truth_74 (by decide) ?_
            refine lv_icmp_ne (tgt := 82) hx hb d_V_truth_75 (by decide) (fun hc => ?_) (fun hc => ?_)
            · replace h := it_f h hc
              refine lv_iload hx hb d_V_truth_82 (lv_at hl 0 rfl) ?_
              refine lv_if_ne (tgt := 91) hx hb d_V_truth_84 (by decide) (fun hc => ?_) (fun hc => ?_)
              · replace h := it_f h hc
                refine lv_iload hx hb d_V_truth_91 (lv_at hl 0 rfl) ?_
                exact rf_I (w := (fun z => wX g ca a z ++ tl)) h hx hb hr hlk hK hP hD hS d_V_truth_93
              · replace h := it_t h hc
                refine lv_iconst (v := (1 : Int32)) hx hb d_V_truth_87 (by decide) ?_
                refine lv_goto (tgt := 93) hx hb d_V_truth_88 (by decide) ?_
                exact rf_I (w := (fun z => wX g ca a z ++ tl)) h hx hb hr hlk hK hP hD hS d_V_truth_93
            · replace h := it_t h hc
              refine lv_iconst (v := (0 : Int32)) hx hb d_V_truth_78 (by decide) ?_
              refine lv_goto (tgt := 93) hx hb d_V_truth_79 (by decide) ?_
              exact rf_I (w := (fun z => wX g ca a z ++ tl)) h hx hb hr hlk hK hP hD hS d_V_truth_93
        · replace h := it_t h hc
          exact L41 s2 x1 x2 H locs ls hP hD hS (lv_sub hl [1, 2, 3] rfl) h
    · replace h := it_t h hc
      refine lv_iconst (v := (2 : Int32)) hx hb d_V_truth_17 (by decide) ?_
      exact rf_I (w := (fun z => wX g ca a z ++ tl)) h hx hb hr hlk hK hP hD hS d_V_truth_18
set_option maxRecDepth 100000 in
set_option maxHeartbeats 4000000 in
theorem c_V_operands_b (l : Launch) (D : va_G) (ca : Nat → ClassId) (g : Bool) (a : Nat → Nat) (tl : va_W) (N : Nat) (n : Nat) (RC : Nat → St → Int32 → Int32 → Option (Int32 × St)) (HR0 : ∀ (σ σ' : St) (x1 : Int32) (x2 : Int32) (r : Int32), RC 0 σ x1 x2 = some (r, σ') → CtI l y_V_value ws_V_value (rm_ev n) 0 0 D vCl (tyX ca) nwX [.ref (a 33), .int x1, .int x2] (wX g ca a σ ++ tl) (wX g ca a σ' ++ tl) r) (HR1 : ∀ (σ σ' : St) (x1 : Int32) (x2 : Int32) (r : Int32), RC 1 σ x1 x2 = some (r, σ') → CtI l y_V_truth ws_V_truth (rm_ev n) 0 0 D vCl (tyX ca) nwX [.ref (a 33), .int x1, .int x2] (wX g ca a σ ++ tl) (wX g ca a σ' ++ tl) r) (HR2 : ∀ (σ σ' : St) (x1 : Int32) (x2 : Int32) (r : Int32), RC 2 σ x1 x2 = some (r, σ') → CtI l y_V_operands ws_V_operands (rm_ev n) 0 0 D vCl (tyX ca) nwX [.ref (a 33), .int x1, .int x2] (wX g ca a σ ++ tl) (wX g ca a σ' ++ tl) r) (HR3 : ∀ (σ σ' : St) (x1 : Int32) (x2 : Int32) (r : Int32), RC 3 σ x1 x2 = some (r, σ') → CtI l y_V_junction ws_V_junction (rm_ev n) 0 0 D vCl (tyX ca) nwX [.ref (a 33), .int x1, .int x2] (wX g ca a σ ++ tl) (wX g ca a σ' ++ tl) r) (σ σ' : St) (x1 : Int32) (x2 : Int32) (r : Int32) (h : f_V_operands_b N g RC σ x1 x2 = some (r, σ')) : CtI l y_V_operands ws_V_operands (rm_ev (n + 1)) 0 0 D vCl (tyX ca) nwX [.ref (a 33), .int x1, .int x2] (wX g ca a σ ++ tl) (wX g ca a σ' ++ tl) r := by
  refine en_I (ws' := BIG) (by decide +kernel) rfl (Nat.le_of_ble_eq_true rfl) ?_
  intro p e s m below meth c A ls R args H locs hR hx hb hr hlk hml hown hB hK hN hP hD hA hS hl
  have hl : lv_has ls 7 [(0, .ref (a 33)), (1, .int x1), (2, .int x2)] := hl
  unfold f_V_operands_b at h
  refine lv_aload_n hx hb d_V_operands_0 rfl (lv_at hl 0 rfl) ?_
  refine lv_aload_n hx hb d_V_operands_1 rfl (lv_at hl 0 rfl) ?_
  refine Xg_33_1 hx hb hB hown (hB _ m_340) hK hP d_V_operands_2 ?_
  refine Xg_6_4 hx hb hB hown (hB _ m_143) hK hP d_V_operands_5 ?_
  refine lv_iload_n hx hb d_V_operands_8 rfl (lv_at hl 1 rfl) ?_
  obtain ⟨hi, h⟩ := ckb_some h
  refine Xa_9 hx hb hK hP hi d_V_operands_9 ?_
  refine lv_iload_n hx hb d_V_operands_10 rfl (lv_at hl 2 rfl) ?_
  refine lv_iconst (v := (1 : Int32)) hx hb d_V_operands_11 (by decide) ?_
  refine lv_iadd hx hb d_V_operands_12 ?_
  obtain ⟨r1, s2, hr1, h⟩ := bd_some h
  refine go_VI (rest := []) ⟨hx, hb, hml, hown, hB⟩ nwX_ok (HR0 σ s2 (ga σ 4 (x1).toNatClampNeg) (x2 + (1 : Int32)) r1 hr1) (cwx_V hB m_686 kw_V_value ⟨by rw [hR]; simp only [rm_ev]; omega, by rw [hR]; simp only [rm_ev]; omega⟩ rfl rfl) (va_recv hK hP (ci := 4) (q0 := 33) rfl rfl) hN hK hP hD hS hA rfl hl.1 rfl (Nat.le_of_ble_eq_true rfl) d_V_operands_13 ⟨by rw [hR]; exact Nat.le_of_ble_eq_true rfl, by rw [hR]; exact Nat.le_of_ble_eq_true rfl⟩ (fun H locs hP hD hS => ?_)
  refine lv_istore_n (lv' := [(3, .int r1), (0, .ref (a 33)), (1, .int x1), (2, .int x2)]) hx hb d_V_operands_16 rfl hl (by decide) rfl (fun ls hl => ?_)
  refine lv_aload_n hx hb d_V_operands_17 rfl (lv_at hl 1 rfl) ?_
  refine Xg_33_5 hx hb hB hown (hB _ m_346) hK hP d_V_operands_18 ?_
  refine lv_lstore (lv' := [(4, .long (gl s2 0)), (3, .int r1), (0, .ref (a 33)), (1, .int x1), (2, .int x2)]) hx hb d_V_operands_21 hl (by decide) rfl (fun ls hl => ?_)
  refine lv_iload_n hx hb d_V_operands_23 rfl (lv_at hl 1 rfl) ?_
  refine lv_if_ge (tgt := 29) hx hb d_V_operands_24 (by decide) (fun hc => ?_) (fun hc => ?_)
  · replace h := it_t h hc
    refine lv_aload_n hx hb d_V_operands_29 rfl (lv_at hl 2 rfl) ?_
    refine lv_aload_n hx hb d_V_operands_30 rfl (lv_at hl 2 rfl) ?_
    refine Xg_33_1 hx hb hB hown (hB _ m_340) hK hP d_V_operands_31 ?_
    refine Xg_6_5 hx hb hB hown (hB _ m_146) hK hP d_V_operands_34 ?_
    refine lv_iload_n hx hb d_V_operands_37 rfl (lv_at hl 3 rfl) ?_
    obtain ⟨hi, h⟩ := ckb_some h
    refine Xa_10 hx hb hK hP hi d_V_operands_38 ?_
    refine lv_iload_n hx hb d_V_operands_39 rfl (lv_at hl 4 rfl) ?_
    refine lv_iconst (v := (1 : Int32)) hx hb d_V_operands_40 (by decide) ?_
    refine lv_iadd hx hb d_V_operands_41 ?_
    obtain ⟨r3, s4, hr3, h⟩ := bd_some h
    refine go_VI (rest := []) ⟨hx, hb, hml, hown, hB⟩ nwX_ok (HR0 s2 s4 (ga s2 5 (x1).toNatClampNeg) (x2 + (1 : Int32)) r3 hr3) (cwx_V hB m_686 kw_V_value ⟨by rw [hR]; simp only [rm_ev]; omega, by rw [hR]; simp only [rm_ev]; omega⟩ rfl rfl) (va_recv hK hP (ci := 4) (q0 := 33) rfl rfl) hN hK hP hD hS hA rfl hl.1 rfl (Nat.le_of_ble_eq_true rfl) d_V_operands_42 ⟨by rw [hR]; exact Nat.le_of_ble_eq_true rfl, by rw [hR]; exact Nat.le_of_ble_eq_true rfl⟩ (fun H locs hP hD hS => ?_)
    refine lv_istore (lv' := [(6, .int r3), (4, .long (gl s2 0)), (3, .int r1), (0, .ref (a 33)), (1, .int x1), (2, .int x2)]) hx hb d_V_operands_45 hl (by decide) rfl (fun ls hl => ?_)
    refine lv_iload hx hb d_V_operands_47 (lv_at hl 0 rfl) ?_
    refine lv_if_ge (tgt := 55) hx hb d_V_operands_49 (by decide) (fun hc => ?_) (fun hc => ?_)
    · replace h := it_t h hc
      refine lv_iload_n hx hb d_V_operands_55 rfl (lv_at hl 2 rfl) ?_
      refine lv_if_eq (tgt := 64) hx hb d_V_operands_56 (by decide) (fun hc => ?_) (fun hc => ?_)
      · replace h := it_t h hc
        refine lv_aload_n hx hb d_V_operands_64 rfl (lv_at hl 3 rfl) ?_
        refine lv_lconst (v := (0 : Int64)) hx hb d_V_operands_65 (by decide) ?_
        obtain ⟨s5, es5, h⟩ := nm_some h
        refine Xp_33_5 es5 hx hb hB hown (hB _ m_346) hK hP hD hS d_V_operands_66 (fun H locs hP hD hS => ?_)
        refine lv_iconst (v := (0 : Int32)) hx hb d_V_operands_69 (by decide) ?_
        exact rf_I (w := (fun z => wX g ca a z ++ tl)) h hx hb hr hlk hK hP hD hS d_V_operands_70
      · replace h := it_f h hc
        refine lv_iload hx hb d_V_operands_59 (lv_at hl 0 rfl) ?_
        refine lv_if_ne (tgt := 71) hx hb d_V_operands_61 (by decide) (fun hc => ?_) (fun hc => ?_)
        · replace h := it_f h hc
          refine lv_aload_n hx hb d_V_operands_71 rfl (lv_at hl 3 rfl) ?_
          refine lv_lload hx hb d_V_operands_72 (lv_at hl 1 rfl) ?_
          obtain ⟨s6, es6, h⟩ := nm_some h
          refine Xp_33_6 es6 hx hb hB hown (hB _ m_348) hK hP hD hS d_V_operands_74 (fun H locs hP hD hS => ?_)
          refine lv_iconst (v := (1 : Int32)) hx hb d_V_operands_77 (by decide) ?_
          exact rf_I (w := (fun z => wX g ca a z ++ tl)) h hx hb hr hlk hK hP hD hS d_V_operands_78
        · replace h := it_t h hc
          refine lv_aload_n hx hb d_V_operands_64 rfl (lv_at hl 3 rfl) ?_
          refine lv_lconst (v := (0 : Int64)) hx hb d_V_operands_65 (by decide) ?_
          obtain ⟨s7, es7, h⟩ := nm_some h
          refine Xp_33_5 es7 hx hb hB hown (hB _ m_346) hK hP hD hS d_V_operands_66 (fun H locs hP hD hS => ?_)
          refine lv_iconst (v := (0 : Int32)) hx hb d_V_operands_69 (by decide) ?_
          exact rf_I (w := (fun z => wX g ca a z ++ tl)) h hx hb hr hlk hK hP hD hS d_V_operands_70
    · replace h := it_f h hc
      refine lv_iload hx hb d_V_operands_52 (lv_at hl 0 rfl) ?_
      exact rf_I (w := (fun z => wX g ca a z ++ tl)) h hx hb hr hlk hK hP hD hS d_V_operands_54
  · replace h := it_f h hc
    refine lv_iload_n hx hb d_V_operands_27 rfl (lv_at hl 1 rfl) ?_
    exact rf_I (w := (fun z => wX g ca a z ++ tl)) h hx hb hr hlk hK hP hD hS d_V_operands_28
