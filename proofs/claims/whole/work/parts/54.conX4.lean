set_option maxRecDepth 100000 in
set_option maxHeartbeats 4000000 in
theorem c_A_isNullAt (l : Launch) (D : va_G) (ca : Nat → ClassId) (g : Bool) (a : Nat → Nat) (tl : va_W) (N : Nat) (σ σ' : St) (x1 : Int32) (x2 : Int32) (r : Int32) (h : f_A_isNullAt N σ x1 x2 = some (r, σ')) : CtI l y_A_isNullAt ws_A_isNullAt rm_A_isNullAt 0 0 D vCl (tyX ca) nwX [.ref (a 26), .int x1, .int x2] (wX g ca a σ ++ tl) (wX g ca a σ' ++ tl) r := by
  refine en_Z (ws' := BIG) (by decide +kernel) rfl (Nat.le_of_ble_eq_true rfl) ?_
  intro p e s m below meth c A ls R args H locs hR hx hb hr hlk hml hown hB hK hN hP hD hA hS hl
  have hl : lv_has ls 3 [(0, .ref (a 26)), (1, .int x1), (2, .int x2)] := hl
  unfold f_A_isNullAt at h
  refine lv_aload_n hx hb d_A_isNullAt_0 rfl (lv_at hl 0 rfl) ?_
  refine Xg_26_5 hx hb hB hown (hB _ m_291) hK hP d_A_isNullAt_1 ?_
  refine lv_iload_n hx hb d_A_isNullAt_4 rfl (lv_at hl 1 rfl) ?_
  obtain ⟨hi, h⟩ := ckb_some h
  refine Xa_28 hx hb hK hP hi d_A_isNullAt_5 ?_
  refine lv_iload_n hx hb d_A_isNullAt_6 rfl (lv_at hl 2 rfl) ?_
  refine lv_ishr hx hb d_A_isNullAt_7 ?_
  refine lv_iconst (v := (1 : Int32)) hx hb d_A_isNullAt_8 (by decide) ?_
  refine lv_iand hx hb d_A_isNullAt_9 ?_
  refine lv_if_eq (tgt := 17) hx hb d_A_isNullAt_10 (by decide) (fun hc => ?_) (fun hc => ?_)
  · replace h := it_t h hc
    refine lv_iconst (v := (0 : Int32)) hx hb d_A_isNullAt_17 (by decide) ?_
    exact rf_Z (w := (fun z => wX g ca a z ++ tl)) h hx hb hr hlk hK hP hD hS rfl d_A_isNullAt_18
  · replace h := it_f h hc
    refine lv_iconst (v := (1 : Int32)) hx hb d_A_isNullAt_13 (by decide) ?_
    refine lv_goto (tgt := 18) hx hb d_A_isNullAt_14 (by decide) ?_
    exact rf_Z (w := (fun z => wX g ca a z ++ tl)) h hx hb hr hlk hK hP hD hS rfl d_A_isNullAt_18
set_option maxRecDepth 100000 in
set_option maxHeartbeats 4000000 in
theorem c_L_compare (l : Launch) (D : va_G) (ca : Nat → ClassId) (g : Bool) (a : Nat → Nat) (tl : va_W) (N : Nat) (σ σ' : St) (x0 : Int64) (x2 : Int64) (r : Int32) (h : f_L_compare N σ x0 x2 = some (r, σ')) : CtI l y_L_compare ws_L_compare rm_L_compare 0 0 D vCl (tyX ca) nwX [.long x0, .long x2] (wX g ca a σ ++ tl) (wX g ca a σ' ++ tl) r := by
  refine en_I (ws' := BIG) (by decide +kernel) rfl (Nat.le_of_ble_eq_true rfl) ?_
  intro p e s m below meth c A ls R args H locs hR hx hb hr hlk hml hown hB hK hN hP hD hA hS hl
  have hl : lv_has ls 4 [(0, .long x0), (2, .long x2)] := hl
  unfold f_L_compare at h
  refine lv_lload_n hx hb d_L_compare_0 rfl (lv_at hl 0 rfl) ?_
  refine lv_lload_n hx hb d_L_compare_1 rfl (lv_at hl 1 rfl) ?_
  refine W.lcmp hx hb d_L_compare_2 ?_
  refine lv_if_ge (tgt := 10) hx hb d_L_compare_3 (by decide) (fun hc => ?_) (fun hc => ?_)
  · replace h := it_t h hc
    refine lv_lload_n hx hb d_L_compare_10 rfl (lv_at hl 0 rfl) ?_
    refine lv_lload_n hx hb d_L_compare_11 rfl (lv_at hl 1 rfl) ?_
    refine W.lcmp hx hb d_L_compare_12 ?_
    refine lv_if_ne (tgt := 20) hx hb d_L_compare_13 (by decide) (fun hc => ?_) (fun hc => ?_)
    · replace h := it_f h hc
      refine lv_iconst (v := (1 : Int32)) hx hb d_L_compare_20 (by decide) ?_
      exact rf_I (w := (fun z => wX g ca a z ++ tl)) h hx hb hr hlk hK hP hD hS d_L_compare_21
    · replace h := it_t h hc
      refine lv_iconst (v := (0 : Int32)) hx hb d_L_compare_16 (by decide) ?_
      refine lv_goto (tgt := 21) hx hb d_L_compare_17 (by decide) ?_
      exact rf_I (w := (fun z => wX g ca a z ++ tl)) h hx hb hr hlk hK hP hD hS d_L_compare_21
  · replace h := it_f h hc
    refine lv_iconst (v := (-1 : Int32)) hx hb d_L_compare_6 (by decide) ?_
    refine lv_goto (tgt := 21) hx hb d_L_compare_7 (by decide) ?_
    exact rf_I (w := (fun z => wX g ca a z ++ tl)) h hx hb hr hlk hK hP hD hS d_L_compare_21
set_option maxRecDepth 100000 in
set_option maxHeartbeats 4000000 in
theorem c_A_compareItem (l : Launch) (D : va_G) (ca : Nat → ClassId) (g : Bool) (a : Nat → Nat) (tl : va_W) (N : Nat) (σ σ' : St) (x1 : Int32) (x2 : Int32) (x3 : Int32) (r : Int32) (h : f_A_compareItem N σ x1 x2 x3 = some (r, σ')) : CtI l y_A_compareItem ws_A_compareItem rm_A_compareItem 0 0 D vCl (tyX ca) nwX [.ref (a 26), .int x1, .int x2, .int x3] (wX g ca a σ ++ tl) (wX g ca a σ' ++ tl) r := by
  refine en_I (ws' := BIG) (by decide +kernel) rfl (Nat.le_of_ble_eq_true rfl) ?_
  intro p e s m below meth c A ls R args H locs hR hx hb hr hlk hml hown hB hK hN hP hD hA hS hl
  have hl : lv_has ls 6 [(0, .ref (a 26)), (1, .int x1), (2, .int x2), (3, .int x3)] := hl
  unfold f_A_compareItem at h
  refine lv_aload_n hx hb d_A_compareItem_0 rfl (lv_at hl 0 rfl) ?_
  refine lv_iload_n hx hb d_A_compareItem_1 rfl (lv_at hl 1 rfl) ?_
  refine lv_iload_n hx hb d_A_compareItem_2 rfl (lv_at hl 3 rfl) ?_
  obtain ⟨r1, s2, hr1, h⟩ := bd_some h
  refine go_VI (rest := []) ⟨hx, hb, hml, hown, hB⟩ nwX_ok (c_A_isNullAt l D ca g a tl N σ s2 x1 x3 r1 hr1) (cwx_V hB m_823 kw_A_isNullAt ⟨by rw [hR]; decide, by rw [hR]; decide⟩ rfl rfl) (va_recv hK hP (ci := 2) (q0 := 26) rfl rfl) hN hK hP hD hS hA rfl hl.1 rfl (Nat.le_of_ble_eq_true rfl) d_A_compareItem_3 ⟨by rw [hR]; exact Nat.le_of_ble_eq_true rfl, by rw [hR]; exact Nat.le_of_ble_eq_true rfl⟩ (fun H locs hP hD hS => ?_)
  refine lv_istore (lv' := [(4, .int r1), (0, .ref (a 26)), (1, .int x1), (2, .int x2), (3, .int x3)]) hx hb d_A_compareItem_6 hl (by decide) rfl (fun ls hl => ?_)
  refine lv_aload_n hx hb d_A_compareItem_8 rfl (lv_at hl 1 rfl) ?_
  refine lv_iload_n hx hb d_A_compareItem_9 rfl (lv_at hl 3 rfl) ?_
  refine lv_iload_n hx hb d_A_compareItem_10 rfl (lv_at hl 4 rfl) ?_
  obtain ⟨r3, s4, hr3, h⟩ := bd_some h
  refine go_VI (rest := []) ⟨hx, hb, hml, hown, hB⟩ nwX_ok (c_A_isNullAt l D ca g a tl N s2 s4 x2 x3 r3 hr3) (cwx_V hB m_823 kw_A_isNullAt ⟨by rw [hR]; decide, by rw [hR]; decide⟩ rfl rfl) (va_recv hK hP (ci := 2) (q0 := 26) rfl rfl) hN hK hP hD hS hA rfl hl.1 rfl (Nat.le_of_ble_eq_true rfl) d_A_compareItem_11 ⟨by rw [hR]; exact Nat.le_of_ble_eq_true rfl, by rw [hR]; exact Nat.le_of_ble_eq_true rfl⟩ (fun H locs hP hD hS => ?_)
  refine lv_istore (lv' := [(5, .int r3), (4, .int r1), (0, .ref (a 26)), (1, .int x1), (2, .int x2), (3, .int x3)]) hx hb d_A_compareItem_14 hl (by decide) rfl (fun ls hl => ?_)
  refine lv_iload hx hb d_A_compareItem_16 (lv_at hl 1 rfl) ?_
  have L26 : ∀ (σ : St) (x4 : Int32) (x5 : Int32) (H : Heap) (locs : List Loc) (ls : Array Slot), va_P D vCl (wX g ca a σ ++ tl) H → va_D A (wX g ca a σ ++ tl) → va_S A s.heap H locs → lv_has ls 6 [(4, .int x4), (5, .int x5)] → f_A_compareItem_26 N σ x4 x5 = some (r, σ') → W p l e R s m args below meth c H locs 0 0 (MQ below (qb_QI D vCl (tyX ca) (wX g ca a σ' ++ tl) A r) args s 0 0 A) (F0 m 26 ls []) := by
    intro σ x4 x5 H locs ls hP hD hS hl h
    unfold f_A_compareItem_26 at h
    refine lv_iload hx hb d_A_compareItem_26 (lv_at hl 0 rfl) ?_
    have L40 : ∀ (σ : St) (x4 : Int32) (H : Heap) (locs : List Loc) (ls : Array Slot), va_P D vCl (wX g ca a σ ++ tl) H → va_D A (wX g ca a σ ++ tl) → va_S A s.heap H locs → lv_has ls 6 [(4, .int x4)] → f_A_compareItem_40 N σ x4 = some (r, σ') → W p l e R s m args below meth c H locs 0 0 (MQ below (qb_QI D vCl (tyX ca) (wX g ca a σ' ++ tl) A r) args s 0 0 A) (F0 m 40 ls []) := by
      intro σ x4 H locs ls hP hD hS hl h
      unfold f_A_compareItem_40 at h
      refine lv_iload hx hb d_A_compareItem_40 (lv_at hl 0 rfl) ?_
      refine lv_if_eq (tgt := 49) hx hb d_A_compareItem_42 (by decide) (fun hc => ?_) (fun hc => ?_)
      · replace h := it_t h hc
        refine lv_iconst (v := (1 : Int32)) hx hb d_A_compareItem_49 (by decide) ?_
        exact rf_I (w := (fun z => wX g ca a z ++ tl)) h hx hb hr hlk hK hP hD hS d_A_compareItem_50
      · replace h := it_f h hc
        refine lv_iconst (v := (-1 : Int32)) hx hb d_A_compareItem_45 (by decide) ?_
        refine lv_goto (tgt := 50) hx hb d_A_compareItem_46 (by decide) ?_
        exact rf_I (w := (fun z => wX g ca a z ++ tl)) h hx hb hr hlk hK hP hD hS d_A_compareItem_50
    refine lv_if_eq (tgt := 40) hx hb d_A_compareItem_28 (by decide) (fun hc => ?_) (fun hc => ?_)
    · replace h := it_t h hc
      exact L40 σ x4 H locs ls hP hD hS (lv_sub hl [0] rfl) h
    · replace h := it_f h hc
      refine lv_iload hx hb d_A_compareItem_31 (lv_at hl 1 rfl) ?_
      refine lv_if_eq (tgt := 40) hx hb d_A_compareItem_33 (by decide) (fun hc => ?_) (fun hc => ?_)
      · replace h := it_t h hc
        exact L40 σ x4 H locs ls hP hD hS (lv_sub hl [0] rfl) h
      · replace h := it_f h hc
        refine lv_iconst (v := (0 : Int32)) hx hb d_A_compareItem_36 (by decide) ?_
        refine lv_goto (tgt := 50) hx hb d_A_compareItem_37 (by decide) ?_
        exact rf_I (w := (fun z => wX g ca a z ++ tl)) h hx hb hr hlk hK hP hD hS d_A_compareItem_50
  refine lv_if_ne (tgt := 26) hx hb d_A_compareItem_18 (by decide) (fun hc => ?_) (fun hc => ?_)
  · replace h := it_f h hc
    exact L26 s4 r1 r3 H locs ls hP hD hS (lv_sub hl [1, 0] rfl) h
  · replace h := it_t h hc
    refine lv_iload hx hb d_A_compareItem_21 (lv_at hl 0 rfl) ?_
    refine lv_if_eq (tgt := 51) hx hb d_A_compareItem_23 (by decide) (fun hc => ?_) (fun hc => ?_)
    · replace h := it_t h hc
      refine lv_aload_n hx hb d_A_compareItem_51 rfl (lv_at hl 2 rfl) ?_
      refine Xg_26_4 hx hb hB hown (hB _ m_290) hK hP d_A_compareItem_52 ?_
      refine lv_iload_n hx hb d_A_compareItem_55 rfl (lv_at hl 3 rfl) ?_
      refine lv_bipush (v := (6 : Int32)) hx hb d_A_compareItem_56 (by decide) ?_
      refine lv_imul hx hb d_A_compareItem_58 ?_
      refine lv_iload_n hx hb d_A_compareItem_59 rfl (lv_at hl 5 rfl) ?_
      refine lv_iadd hx hb d_A_compareItem_60 ?_
      obtain ⟨hi, h⟩ := ckb_some h
      refine Xa_27 hx hb hK hP hi d_A_compareItem_61 ?_
      refine lv_aload_n hx hb d_A_compareItem_62 rfl (lv_at hl 2 rfl) ?_
      refine Xg_26_4 hx hb hB hown (hB _ m_290) hK hP d_A_compareItem_63 ?_
      refine lv_iload_n hx hb d_A_compareItem_66 rfl (lv_at hl 4 rfl) ?_
      refine lv_bipush (v := (6 : Int32)) hx hb d_A_compareItem_67 (by decide) ?_
      refine lv_imul hx hb d_A_compareItem_69 ?_
      refine lv_iload_n hx hb d_A_compareItem_70 rfl (lv_at hl 5 rfl) ?_
      refine lv_iadd hx hb d_A_compareItem_71 ?_
      obtain ⟨hi, h⟩ := ckb_some h
      refine Xa_27 hx hb hK hP hi d_A_compareItem_72 ?_
      obtain ⟨r5, s6, hr5, h⟩ := bd_some h
      refine go_SI (rest := []) ⟨hx, hb, hml, hown, hB⟩ nwX_ok (c_L_compare l D ca g a tl N s4 s6 (gb s4 2 (((x1 * (6 : Int32)) + x3)).toNatClampNeg) (gb s4 2 (((x2 * (6 : Int32)) + x3)).toNatClampNeg) r5 hr5) (cwx_S hB m_827 kw_L_compare ⟨by rw [hR]; decide, by rw [hR]; decide⟩ rfl rfl) hN hK hP hD hS hA rfl hl.1 rfl (Nat.le_of_ble_eq_true rfl) d_A_compareItem_73 ⟨by rw [hR]; exact Nat.le_of_ble_eq_true rfl, by rw [hR]; exact Nat.le_of_ble_eq_true rfl⟩ (fun H locs hP hD hS => ?_)
      exact rf_I (w := (fun z => wX g ca a z ++ tl)) h hx hb hr hlk hK hP hD hS d_A_compareItem_76
    · replace h := it_f h hc
      exact L26 s4 r1 r3 H locs ls hP hD hS (lv_sub hl [1, 0] rfl) h
set_option maxRecDepth 100000 in
set_option maxHeartbeats 4000000 in
theorem c_A_compare (l : Launch) (D : va_G) (ca : Nat → ClassId) (g : Bool) (a : Nat → Nat) (tl : va_W) (N : Nat) (σ σ' : St) (x1 : Int32) (x2 : Int32) (r : Int32) (h : f_A_compare N σ x1 x2 = some (r, σ')) : CtI l y_A_compare ws_A_compare rm_A_compare 0 0 D vCl (tyX ca) nwX [.ref (a 26), .int x1, .int x2, .ref (a 18)] (wX g ca a σ ++ tl) (wX g ca a σ' ++ tl) r := by
  refine en_I (ws' := BIG) (by decide +kernel) rfl (Nat.le_of_ble_eq_true rfl) ?_
  intro p e s m below meth c A ls R args H locs hR hx hb hr hlk hml hown hB hK hN hP hD hA hS hl
  have hl : lv_has ls 7 [(0, .ref (a 26)), (1, .int x1), (2, .int x2), (3, .ref (a 18))] := hl
  unfold f_A_compare at h
  refine lv_iconst (v := (0 : Int32)) hx hb d_A_compare_0 (by decide) ?_
  have L3 : ∀ (n : Nat) (σ : St) (x1 : Int32) (x2 : Int32) (x4 : Int32) (H : Heap) (locs : List Loc) (ls : Array Slot), va_P D vCl (wX g ca a σ ++ tl) H → va_D A (wX g ca a σ ++ tl) → va_S A s.heap H locs → lv_has ls 7 [(0, .ref (a 26)), (1, .int x1), (2, .int x2), (3, .ref (a 18)), (4, .int x4)] → f_A_compare_3 N n σ x1 x2 x4 = some (r, σ') → W p l e R s m args below meth c H locs 0 0 (MQ below (qb_QI D vCl (tyX ca) (wX g ca a σ' ++ tl) A r) args s 0 0 A) (F0 m 3 ls []) := by
    intro n
    induction n with
    | zero => intro σ x1 x2 x4 H locs ls hP hD hS hl h; cases h
    | succ n ih3 =>
        intro σ x1 x2 x4 H locs ls hP hD hS hl h
        obtain ⟨K3, eK3⟩ : ∃ K, K = f_A_compare_3 N n := ⟨_, rfl⟩
        rw [← eK3] at ih3
        replace h : f_A_compare_3_b N K3 σ x1 x2 x4 = some (r, σ') := by rw [eK3]; exact h
        unfold f_A_compare_3_b at h
        refine lv_iload hx hb d_A_compare_3 (lv_at hl 4 rfl) ?_
        refine lv_aload_n hx hb d_A_compare_5 rfl (lv_at hl 3 rfl) ?_
        refine Xg_18_10 hx hb hB hown (hB _ m_233) hK hP d_A_compare_6 ?_
        refine lv_icmp_ge (tgt := 61) hx hb d_A_compare_9 (by decide) (fun hc => ?_) (fun hc => ?_)
        · replace h := it_t h hc
          refine lv_iconst (v := (0 : Int32)) hx hb d_A_compare_61 (by decide) ?_
          exact rf_I (w := (fun z => wX g ca a z ++ tl)) h hx hb hr hlk hK hP hD hS d_A_compare_62
        · replace h := it_f h hc
          refine lv_aload_n hx hb d_A_compare_12 rfl (lv_at hl 3 rfl) ?_
          refine Xg_18_11 hx hb hB hown (hB _ m_236) hK hP d_A_compare_13 ?_
          refine lv_iload hx hb d_A_compare_16 (lv_at hl 4 rfl) ?_
          obtain ⟨hi, h⟩ := ckb_some h
          refine Xa_24 hx hb hK hP hi d_A_compare_18 ?_
          refine lv_istore (lv' := [(5, .int (ga σ 18 (x4).toNatClampNeg)), (0, .ref (a 26)), (1, .int x1), (2, .int x2), (3, .ref (a 18)), (4, .int x4)]) hx hb d_A_compare_19 hl (by decide) rfl (fun ls hl => ?_)
          refine lv_aload_n hx hb d_A_compare_21 rfl (lv_at hl 1 rfl) ?_
          refine lv_iload_n hx hb d_A_compare_22 rfl (lv_at hl 2 rfl) ?_
          refine lv_iload_n hx hb d_A_compare_23 rfl (lv_at hl 3 rfl) ?_
          refine lv_iload hx hb d_A_compare_24 (lv_at hl 0 rfl) ?_
          obtain ⟨r1, s2, hr1, h⟩ := bd_some h
          refine go_VI (rest := []) ⟨hx, hb, hml, hown, hB⟩ nwX_ok (c_A_compareItem l D ca g a tl N σ s2 x1 x2 (ga σ 18 (x4).toNatClampNeg) r1 hr1) (cwx_V hB m_819 kw_A_compareItem ⟨by rw [hR]; decide, by rw [hR]; decide⟩ rfl rfl) (va_recv hK hP (ci := 2) (q0 := 26) rfl rfl) hN hK hP hD hS hA rfl hl.1 rfl (Nat.le_of_ble_eq_true rfl) d_A_compare_26 ⟨by rw [hR]; exact Nat.le_of_ble_eq_true rfl, by rw [hR]; exact Nat.le_of_ble_eq_true rfl⟩ (fun H locs hP hD hS => ?_)
          refine lv_istore (lv' := [(6, .int r1), (5, .int (ga σ 18 (x4).toNatClampNeg)), (0, .ref (a 26)), (1, .int x1), (2, .int x2), (3, .ref (a 18)), (4, .int x4)]) hx hb d_A_compare_29 hl (by decide) rfl (fun ls hl => ?_)
          refine lv_iload hx hb d_A_compare_31 (lv_at hl 0 rfl) ?_
          refine lv_if_eq (tgt := 55) hx hb d_A_compare_33 (by decide) (fun hc => ?_) (fun hc => ?_)
          · replace h := it_t h hc
            refine lv_iinc (v := (x4 + 1)) (lv' := [(4, .int (x4 + 1)), (6, .int r1), (5, .int (ga σ 18 (x4).toNatClampNeg)), (0, .ref (a 26)), (1, .int x1), (2, .int x2), (3, .ref (a 18))]) hx hb d_A_compare_55 hl (k := 6) rfl rfl (by decide) rfl (fun ls hl => ?_)
            refine lv_goto (tgt := 3) hx hb d_A_compare_58 (by decide) ?_
            exact ih3 s2 x1 x2 (x4 + 1) H locs ls hP hD hS (lv_sub hl [3, 4, 5, 6, 0] rfl) h
          · replace h := it_f h hc
            refine lv_aload_n hx hb d_A_compare_36 rfl (lv_at hl 5 rfl) ?_
            refine Xg_18_12 hx hb hB hown (hB _ m_238) hK hP d_A_compare_37 ?_
            refine lv_iload hx hb d_A_compare_40 (lv_at hl 6 rfl) ?_
            obtain ⟨hi, h⟩ := ckb_some h
            refine Xa_25 hx hb hK hP hi d_A_compare_42 ?_
            refine lv_if_eq (tgt := 52) hx hb d_A_compare_43 (by decide) (fun hc => ?_) (fun hc => ?_)
            · replace h := it_t h hc
              refine lv_iload hx hb d_A_compare_52 (lv_at hl 0 rfl) ?_
              exact rf_I (w := (fun z => wX g ca a z ++ tl)) h hx hb hr hlk hK hP hD hS d_A_compare_54
            · replace h := it_f h hc
              refine lv_iload hx hb d_A_compare_46 (lv_at hl 0 rfl) ?_
              refine lv_ineg hx hb d_A_compare_48 ?_
              refine lv_goto (tgt := 54) hx hb d_A_compare_49 (by decide) ?_
              exact rf_I (w := (fun z => wX g ca a z ++ tl)) h hx hb hr hlk hK hP hD hS d_A_compare_54
  refine lv_istore (lv' := [(4, .int (0 : Int32)), (0, .ref (a 26)), (1, .int x1), (2, .int x2), (3, .ref (a 18))]) hx hb d_A_compare_1 hl (by decide) rfl (fun ls hl => ?_)
  exact L3 N σ x1 x2 (0 : Int32) H locs ls hP hD hS (lv_sub hl [1, 2, 3, 4, 0] rfl) h
set_option maxRecDepth 100000 in
set_option maxHeartbeats 4000000 in
theorem c_A_insertInOrder (l : Launch) (D : va_G) (ca : Nat → ClassId) (g : Bool) (a : Nat → Nat) (tl : va_W) (N : Nat) (σ σ' : St) (x1 : Int32) (x2 : Int32) (h : f_A_insertInOrder N σ x1 x2 = some ((), σ')) : CtV l y_A_insertInOrder ws_A_insertInOrder rm_A_insertInOrder 0 0 D vCl (tyX ca) nwX [.ref (a 26), .int x1, .int x2, .ref (a 18)] (wX g ca a σ ++ tl) (wX g ca a σ' ++ tl) := by
  refine en_V (ws' := BIG) (by decide +kernel) rfl (Nat.le_of_ble_eq_true rfl) ?_
  intro p e s m below meth c A ls R args H locs hR hx hb hr hlk hml hown hB hK hN hP hD hA hS hl
  have hl : lv_has ls 5 [(0, .ref (a 26)), (1, .int x1), (2, .int x2), (3, .ref (a 18))] := hl
  unfold f_A_insertInOrder at h
  refine lv_iload_n hx hb d_A_insertInOrder_0 rfl (lv_at hl 2 rfl) ?_
  have L3 : ∀ (n : Nat) (σ : St) (x1 : Int32) (x4 : Int32) (H : Heap) (locs : List Loc) (ls : Array Slot), va_P D vCl (wX g ca a σ ++ tl) H → va_D A (wX g ca a σ ++ tl) → va_S A s.heap H locs → lv_has ls 5 [(0, .ref (a 26)), (1, .int x1), (3, .ref (a 18)), (4, .int x4)] → f_A_insertInOrder_3 N n σ x1 x4 = some ((), σ') → W p l e R s m args below meth c H locs 0 0 (MQ below (qb_QV D vCl (tyX ca) (wX g ca a σ' ++ tl) A) args s 0 0 A) (F0 m 3 ls []) := by
    intro n
    induction n with
    | zero => intro σ x1 x4 H locs ls hP hD hS hl h; cases h
    | succ n ih3 =>
        intro σ x1 x4 H locs ls hP hD hS hl h
        obtain ⟨K3, eK3⟩ : ∃ K, K = f_A_insertInOrder_3 N n := ⟨_, rfl⟩
        rw [← eK3] at ih3
        replace h : f_A_insertInOrder_3_b N K3 σ x1 x4 = some ((), σ') := by rw [eK3]; exact h
        unfold f_A_insertInOrder_3_b at h
        refine lv_iload hx hb d_A_insertInOrder_3 (lv_at hl 3 rfl) ?_
        refine lv_if_le (tgt := 48) hx hb d_A_insertInOrder_5 (by decide) (fun hc => ?_) (fun hc => ?_)
        · replace h := it_t h hc
          refine lv_aload_n hx hb d_A_insertInOrder_48 rfl (lv_at hl 0 rfl) ?_
          refine Xg_26_6 hx hb hB hown (hB _ m_292) hK hP d_A_insertInOrder_49 ?_
          refine lv_iload hx hb d_A_insertInOrder_52 (lv_at hl 3 rfl) ?_
          refine lv_iload_n hx hb d_A_insertInOrder_54 rfl (lv_at hl 1 rfl) ?_
          obtain ⟨hi, h⟩ := ckb_some h
          obtain ⟨s1, es1, h⟩ := nm_some h
          refine Xs_29 es1 hx hb hK hP hD hS hi d_A_insertInOrder_55 (fun H locs hP hD hS => ?_)
          exact rf_V (w := (fun z => wX g ca a z ++ tl)) h hx hb hr hlk hK hP hD hS d_A_insertInOrder_56
        · replace h := it_f h hc
          refine lv_aload_n hx hb d_A_insertInOrder_8 rfl (lv_at hl 0 rfl) ?_
          refine lv_aload_n hx hb d_A_insertInOrder_9 rfl (lv_at hl 0 rfl) ?_
          refine Xg_26_6 hx hb hB hown (hB _ m_292) hK hP d_A_insertInOrder_10 ?_
          refine lv_iload hx hb d_A_insertInOrder_13 (lv_at hl 3 rfl) ?_
          refine lv_iconst (v := (1 : Int32)) hx hb d_A_insertInOrder_15 (by decide) ?_
          refine lv_isub hx hb d_A_insertInOrder_16 ?_
          obtain ⟨hi, h⟩ := ckb_some h
          refine Xa_29 hx hb hK hP hi d_A_insertInOrder_17 ?_
          refine lv_iload_n hx hb d_A_insertInOrder_18 rfl (lv_at hl 1 rfl) ?_
          refine lv_aload_n hx hb d_A_insertInOrder_19 rfl (lv_at hl 2 rfl) ?_
          obtain ⟨r2, s3, hr2, h⟩ := bd_some h
          refine go_VI (rest := []) ⟨hx, hb, hml, hown, hB⟩ nwX_ok (c_A_compare l D ca g a tl N σ s3 (ga σ 21 ((x4 - (1 : Int32))).toNatClampNeg) x1 r2 hr2) (cwx_V hB m_815 kw_A_compare ⟨by rw [hR]; decide, by rw [hR]; decide⟩ rfl rfl) (va_recv hK hP (ci := 2) (q0 := 26) rfl rfl) hN hK hP hD hS hA rfl hl.1 rfl (Nat.le_of_ble_eq_true rfl) d_A_insertInOrder_20 ⟨by rw [hR]; exact Nat.le_of_ble_eq_true rfl, by rw [hR]; exact Nat.le_of_ble_eq_true rfl⟩ (fun H locs hP hD hS => ?_)
          refine lv_if_le (tgt := 48) hx hb d_A_insertInOrder_23 (by decide) (fun hc => ?_) (fun hc => ?_)
          · replace h := it_t h hc
            refine lv_aload_n hx hb d_A_insertInOrder_48 rfl (lv_at hl 0 rfl) ?_
            refine Xg_26_6 hx hb hB hown (hB _ m_292) hK hP d_A_insertInOrder_49 ?_
            refine lv_iload hx hb d_A_insertInOrder_52 (lv_at hl 3 rfl) ?_
            refine lv_iload_n hx hb d_A_insertInOrder_54 rfl (lv_at hl 1 rfl) ?_
            obtain ⟨hi, h⟩ := ckb_some h
            obtain ⟨s4, es4, h⟩ := nm_some h
            refine Xs_29 es4 hx hb hK hP hD hS hi d_A_insertInOrder_55 (fun H locs hP hD hS => ?_)
            exact rf_V (w := (fun z => wX g ca a z ++ tl)) h hx hb hr hlk hK hP hD hS d_A_insertInOrder_56
          · replace h := it_f h hc
            refine lv_aload_n hx hb d_A_insertInOrder_26 rfl (lv_at hl 0 rfl) ?_
            refine Xg_26_6 hx hb hB hown (hB _ m_292) hK hP d_A_insertInOrder_27 ?_
            refine lv_iload hx hb d_A_insertInOrder_30 (lv_at hl 3 rfl) ?_
            refine lv_aload_n hx hb d_A_insertInOrder_32 rfl (lv_at hl 0 rfl) ?_
            refine Xg_26_6 hx hb hB hown (hB _ m_292) hK hP d_A_insertInOrder_33 ?_
            refine lv_iload hx hb d_A_insertInOrder_36 (lv_at hl 3 rfl) ?_
            refine lv_iconst (v := (1 : Int32)) hx hb d_A_insertInOrder_38 (by decide) ?_
            refine lv_isub hx hb d_A_insertInOrder_39 ?_
            obtain ⟨hi, h⟩ := ckb_some h
            refine Xa_29 hx hb hK hP hi d_A_insertInOrder_40 ?_
            obtain ⟨hi, h⟩ := ckb_some h
            obtain ⟨s5, es5, h⟩ := nm_some h
            refine Xs_29 es5 hx hb hK hP hD hS hi d_A_insertInOrder_41 (fun H locs hP hD hS => ?_)
            refine lv_iinc (v := (x4 + Int32.ofInt (-1))) (lv' := [(4, .int (x4 + Int32.ofInt (-1))), (0, .ref (a 26)), (1, .int x1), (3, .ref (a 18))]) hx hb d_A_insertInOrder_42 hl (k := 3) rfl rfl (by decide) rfl (fun ls hl => ?_)
            refine lv_goto (tgt := 3) hx hb d_A_insertInOrder_45 (by decide) ?_
            exact ih3 s5 x1 (x4 + Int32.ofInt (-1)) H locs ls hP hD hS (lv_sub hl [1, 2, 3, 0] rfl) h
  refine lv_istore (lv' := [(4, .int x2), (0, .ref (a 26)), (1, .int x1), (2, .int x2), (3, .ref (a 18))]) hx hb d_A_insertInOrder_1 hl (by decide) rfl (fun ls hl => ?_)
  exact L3 N σ x1 x2 H locs ls hP hD hS (lv_sub hl [1, 2, 4, 0] rfl) h
set_option maxRecDepth 100000 in
set_option maxHeartbeats 4000000 in
theorem c_A_isRepeated (l : Launch) (D : va_G) (ca : Nat → ClassId) (g : Bool) (a : Nat → Nat) (tl : va_W) (N : Nat) (σ σ' : St) (x1 : Int32) (r : Int32) (h : f_A_isRepeated N σ x1 = some (r, σ')) : CtI l y_A_isRepeated ws_A_isRepeated rm_A_isRepeated 0 0 D vCl (tyX ca) nwX [.ref (a 26), .int x1] (wX g ca a σ ++ tl) (wX g ca a σ' ++ tl) r := by
  refine en_Z (ws' := BIG) (by decide +kernel) rfl (Nat.le_of_ble_eq_true rfl) ?_
  intro p e s m below meth c A ls R args H locs hR hx hb hr hlk hml hown hB hK hN hP hD hA hS hl
  have hl : lv_has ls 5 [(0, .ref (a 26)), (1, .int x1)] := hl
  unfold f_A_isRepeated at h
  refine lv_iconst (v := (0 : Int32)) hx hb d_A_isRepeated_0 (by decide) ?_
  have L2 : ∀ (n : Nat) (σ : St) (x1 : Int32) (x2 : Int32) (H : Heap) (locs : List Loc) (ls : Array Slot), va_P D vCl (wX g ca a σ ++ tl) H → va_D A (wX g ca a σ ++ tl) → va_S A s.heap H locs → lv_has ls 5 [(0, .ref (a 26)), (1, .int x1), (2, .int x2)] → f_A_isRepeated_2 N n σ x1 x2 = some (r, σ') → W p l e R s m args below meth c H locs 0 0 (MQ below (qb_QI D vCl (tyX ca) (wX g ca a σ' ++ tl) A r) args s 0 0 A) (F0 m 2 ls []) := by
    intro n
    induction n with
    | zero => intro σ x1 x2 H locs ls hP hD hS hl h; cases h
    | succ n ih2 =>
        intro σ x1 x2 H locs ls hP hD hS hl h
        obtain ⟨K2, eK2⟩ : ∃ K, K = f_A_isRepeated_2 N n := ⟨_, rfl⟩
        rw [← eK2] at ih2
        replace h : f_A_isRepeated_2_b N K2 σ x1 x2 = some (r, σ') := by rw [eK2]; exact h
        unfold f_A_isRepeated_2_b at h
        refine lv_iload_n hx hb d_A_isRepeated_2 rfl (lv_at hl 2 rfl) ?_
        refine lv_iload_n hx hb d_A_isRepeated_3 rfl (lv_at hl 1 rfl) ?_
        refine lv_icmp_ge (tgt := 96) hx hb d_A_isRepeated_4 (by decide) (fun hc => ?_) (fun hc => ?_)
        · replace h := it_t h hc
          refine lv_iconst (v := (0 : Int32)) hx hb d_A_isRepeated_96 (by decide) ?_
          exact rf_Z (w := (fun z => wX g ca a z ++ tl)) h hx hb hr hlk hK hP hD hS rfl d_A_isRepeated_97
        · replace h := it_f h hc
          refine lv_aload_n hx hb d_A_isRepeated_7 rfl (lv_at hl 0 rfl) ?_
          refine Xg_26_5 hx hb hB hown (hB _ m_291) hK hP d_A_isRepeated_8 ?_
          refine lv_iload_n hx hb d_A_isRepeated_11 rfl (lv_at hl 2 rfl) ?_
          obtain ⟨hi, h⟩ := ckb_some h
          refine Xa_28 hx hb hK hP hi d_A_isRepeated_12 ?_
          refine lv_aload_n hx hb d_A_isRepeated_13 rfl (lv_at hl 0 rfl) ?_
          refine Xg_26_5 hx hb hB hown (hB _ m_291) hK hP d_A_isRepeated_14 ?_
          refine lv_iload_n hx hb d_A_isRepeated_17 rfl (lv_at hl 1 rfl) ?_
          obtain ⟨hi, h⟩ := ckb_some h
          refine Xa_28 hx hb hK hP hi d_A_isRepeated_18 ?_
          refine lv_icmp_ne (tgt := 26) hx hb d_A_isRepeated_19 (by decide) (fun hc => ?_) (fun hc => ?_)
          · replace h := it_f h hc
            refine lv_iconst (v := (0 : Int32)) hx hb d_A_isRepeated_26 (by decide) ?_
            refine lv_istore_n (lv' := [(3, .int (0 : Int32)), (0, .ref (a 26)), (1, .int x1), (2, .int x2)]) hx hb d_A_isRepeated_27 rfl hl (by decide) rfl (fun ls hl => ?_)
            refine lv_iconst (v := (0 : Int32)) hx hb d_A_isRepeated_28 (by decide) ?_
            have L31 : ∀ (n : Nat) (σ : St) (x1 : Int32) (x2 : Int32) (x3 : Int32) (x4 : Int32) (H : Heap) (locs : List Loc) (ls : Array Slot), va_P D vCl (wX g ca a σ ++ tl) H → va_D A (wX g ca a σ ++ tl) → va_S A s.heap H locs → lv_has ls 5 [(0, .ref (a 26)), (1, .int x1), (2, .int x2), (3, .int x3), (4, .int x4)] → f_A_isRepeated_31 N K2 n σ x1 x2 x3 x4 = some (r, σ') → W p l e R s m args below meth c H locs 0 0 (MQ below (qb_QI D vCl (tyX ca) (wX g ca a σ' ++ tl) A r) args s 0 0 A) (F0 m 31 ls []) := by
              intro n
              induction n with
              | zero => intro σ x1 x2 x3 x4 H locs ls hP hD hS hl h; cases h
              | succ n ih31 =>
                  intro σ x1 x2 x3 x4 H locs ls hP hD hS hl h
                  obtain ⟨K31, eK31⟩ : ∃ K, K = f_A_isRepeated_31 N K2 n := ⟨_, rfl⟩
                  rw [← eK31] at ih31
                  replace h : f_A_isRepeated_31_b N K2 K31 σ x1 x2 x3 x4 = some (r, σ') := by rw [eK31]; exact h
                  unfold f_A_isRepeated_31_b at h
                  refine lv_iload_n hx hb d_A_isRepeated_31 rfl (lv_at hl 3 rfl) ?_
                  have L84 : ∀ (σ : St) (x1 : Int32) (x2 : Int32) (x3 : Int32) (H : Heap) (locs : List Loc) (ls : Array Slot), va_P D vCl (wX g ca a σ ++ tl) H → va_D A (wX g ca a σ ++ tl) → va_S A s.heap H locs → lv_has ls 5 [(0, .ref (a 26)), (1, .int x1), (2, .int x2), (3, .int x3)] → f_A_isRepeated_84 N K2 σ x1 x2 x3 = some (r, σ') → W p l e R s m args below meth c H locs 0 0 (MQ below (qb_QI D vCl (tyX ca) (wX g ca a σ' ++ tl) A r) args s 0 0 A) (F0 m 84 ls []) := by
                    intro σ x1 x2 x3 H locs ls hP hD hS hl h
                    unfold f_A_isRepeated_84 at h
                    refine lv_iload_n hx hb d_A_isRepeated_84 rfl (lv_at hl 3 rfl) ?_
                    refine lv_if_eq (tgt := 90) hx hb d_A_isRepeated_85 (by decide) (fun hc => ?_) (fun hc => ?_)
                    · replace h := it_t h hc
                      refine lv_iinc (v := (x2 + 1)) (lv' := [(2, .int (x2 + 1)), (0, .ref (a 26)), (1, .int x1), (3, .int x3)]) hx hb d_A_isRepeated_90 hl (k := 2) rfl rfl (by decide) rfl (fun ls hl => ?_)
                      refine lv_goto (tgt := 2) hx hb d_A_isRepeated_93 (by decide) ?_
                      exact ih2 σ x1 (x2 + 1) H locs ls hP hD hS (lv_sub hl [1, 2, 0] rfl) h
                    · replace h := it_f h hc
                      refine lv_iconst (v := (1 : Int32)) hx hb d_A_isRepeated_88 (by decide) ?_
                      exact rf_Z (w := (fun z => wX g ca a z ++ tl)) h hx hb hr hlk hK hP hD hS rfl d_A_isRepeated_89
                  refine lv_if_eq (tgt := 84) hx hb d_A_isRepeated_32 (by decide) (fun hc => ?_) (fun hc => ?_)
                  · replace h := it_t h hc
                    exact L84 σ x1 x2 x3 H locs ls hP hD hS (lv_sub hl [0, 1, 2, 3] rfl) h
                  · replace h := it_f h hc
                    refine lv_iload hx hb d_A_isRepeated_35 (lv_at hl 4 rfl) ?_
                    refine lv_aload_n hx hb d_A_isRepeated_37 rfl (lv_at hl 0 rfl) ?_
                    refine Xg_26_0 hx hb hB hown (hB _ m_284) hK hP d_A_isRepeated_38 ?_
                    refine lv_icmp_ge (tgt := 84) hx hb d_A_isRepeated_41 (by decide) (fun hc => ?_) (fun hc => ?_)
                    · replace h := it_t h hc
                      exact L84 σ x1 x2 x3 H locs ls hP hD hS (lv_sub hl [0, 1, 2, 3] rfl) h
                    · replace h := it_f h hc
                      refine lv_aload_n hx hb d_A_isRepeated_44 rfl (lv_at hl 0 rfl) ?_
                      refine Xg_26_4 hx hb hB hown (hB _ m_290) hK hP d_A_isRepeated_45 ?_
                      refine lv_iload_n hx hb d_A_isRepeated_48 rfl (lv_at hl 2 rfl) ?_
                      refine lv_bipush (v := (6 : Int32)) hx hb d_A_isRepeated_49 (by decide) ?_
                      refine lv_imul hx hb d_A_isRepeated_51 ?_
                      refine lv_iload hx hb d_A_isRepeated_52 (lv_at hl 4 rfl) ?_
                      refine lv_iadd hx hb d_A_isRepeated_54 ?_
                      obtain ⟨hi, h⟩ := ckb_some h
                      refine Xa_27 hx hb hK hP hi d_A_isRepeated_55 ?_
                      refine lv_aload_n hx hb d_A_isRepeated_56 rfl (lv_at hl 0 rfl) ?_
                      refine Xg_26_4 hx hb hB hown (hB _ m_290) hK hP d_A_isRepeated_57 ?_
                      refine lv_iload_n hx hb d_A_isRepeated_60 rfl (lv_at hl 1 rfl) ?_
                      refine lv_bipush (v := (6 : Int32)) hx hb d_A_isRepeated_61 (by decide) ?_
                      refine lv_imul hx hb d_A_isRepeated_63 ?_
                      refine lv_iload hx hb d_A_isRepeated_64 (lv_at hl 4 rfl) ?_
                      refine lv_iadd hx hb d_A_isRepeated_66 ?_
                      obtain ⟨hi, h⟩ := ckb_some h
                      refine Xa_27 hx hb hK hP hi d_A_isRepeated_67 ?_
                      refine W.lcmp hx hb d_A_isRepeated_68 ?_
                      refine lv_if_ne (tgt := 76) hx hb d_A_isRepeated_69 (by decide) (fun hc => ?_) (fun hc => ?_)
                      · replace h := it_f h hc
                        refine lv_iconst (v := (0 : Int32)) hx hb d_A_isRepeated_76 (by decide) ?_
                        refine lv_istore_n (lv' := [(3, .int (0 : Int32)), (0, .ref (a 26)), (1, .int x1), (2, .int x2), (4, .int x4)]) hx hb d_A_isRepeated_77 rfl hl (by decide) rfl (fun ls hl => ?_)
                        refine lv_iinc (v := (x4 + 1)) (lv' := [(4, .int (x4 + 1)), (3, .int (0 : Int32)), (0, .ref (a 26)), (1, .int x1), (2, .int x2)]) hx hb d_A_isRepeated_78 hl (k := 4) rfl rfl (by decide) rfl (fun ls hl => ?_)
                        refine lv_goto (tgt := 31) hx hb d_A_isRepeated_81 (by decide) ?_
                        exact ih31 σ x1 x2 (0 : Int32) (x4 + 1) H locs ls hP hD hS (lv_sub hl [2, 3, 4, 1, 0] rfl) h
                      · replace h := it_t h hc
                        refine lv_iconst (v := (1 : Int32)) hx hb d_A_isRepeated_72 (by decide) ?_
                        refine lv_goto (tgt := 77) hx hb d_A_isRepeated_73 (by decide) ?_
                        refine lv_istore_n (lv' := [(3, .int (1 : Int32)), (0, .ref (a 26)), (1, .int x1), (2, .int x2), (4, .int x4)]) hx hb d_A_isRepeated_77 rfl hl (by decide) rfl (fun ls hl => ?_)
                        refine lv_iinc (v := (x4 + 1)) (lv' := [(4, .int (x4 + 1)), (3, .int (1 : Int32)), (0, .ref (a 26)), (1, .int x1), (2, .int x2)]) hx hb d_A_isRepeated_78 hl (k := 4) rfl rfl (by decide) rfl (fun ls hl => ?_)
                        refine lv_goto (tgt := 31) hx hb d_A_isRepeated_81 (by decide) ?_
                        exact ih31 σ x1 x2 (1 : Int32) (x4 + 1) H locs ls hP hD hS (lv_sub hl [2, 3, 4, 1, 0] rfl) h
            refine lv_istore (lv' := [(4, .int (0 : Int32)), (3, .int (0 : Int32)), (0, .ref (a 26)), (1, .int x1), (2, .int x2)]) hx hb d_A_isRepeated_29 hl (by decide) rfl (fun ls hl => ?_)
            exact L31 N σ x1 x2 (0 : Int32) (0 : Int32) H locs ls hP hD hS (lv_sub hl [2, 3, 4, 1, 0] rfl) h
          · replace h := it_t h hc
            refine lv_iconst (v := (1 : Int32)) hx hb d_A_isRepeated_22 (by decide) ?_
            refine lv_goto (tgt := 27) hx hb d_A_isRepeated_23 (by decide) ?_
            refine lv_istore_n (lv' := [(3, .int (1 : Int32)), (0, .ref (a 26)), (1, .int x1), (2, .int x2)]) hx hb d_A_isRepeated_27 rfl hl (by decide) rfl (fun ls hl => ?_)
            refine lv_iconst (v := (0 : Int32)) hx hb d_A_isRepeated_28 (by decide) ?_
            have L31 : ∀ (n : Nat) (σ : St) (x1 : Int32) (x2 : Int32) (x3 : Int32) (x4 : Int32) (H : Heap) (locs : List Loc) (ls : Array Slot), va_P D vCl (wX g ca a σ ++ tl) H → va_D A (wX g ca a σ ++ tl) → va_S A s.heap H locs → lv_has ls 5 [(0, .ref (a 26)), (1, .int x1), (2, .int x2), (3, .int x3), (4, .int x4)] → f_A_isRepeated_31 N K2 n σ x1 x2 x3 x4 = some (r, σ') → W p l e R s m args below meth c H locs 0 0 (MQ below (qb_QI D vCl (tyX ca) (wX g ca a σ' ++ tl) A r) args s 0 0 A) (F0 m 31 ls []) := by
              intro n
              induction n with
              | zero => intro σ x1 x2 x3 x4 H locs ls hP hD hS hl h; cases h
              | succ n ih31 =>
                  intro σ x1 x2 x3 x4 H locs ls hP hD hS hl h
                  obtain ⟨K31, eK31⟩ : ∃ K, K = f_A_isRepeated_31 N K2 n := ⟨_, rfl⟩
                  rw [← eK31] at ih31
                  replace h : f_A_isRepeated_31_b N K2 K31 σ x1 x2 x3 x4 = some (r, σ') := by rw [eK31]; exact h
                  unfold f_A_isRepeated_31_b at h
                  refine lv_iload_n hx hb d_A_isRepeated_31 rfl (lv_at hl 3 rfl) ?_
                  have L84 : ∀ (σ : St) (x1 : Int32) (x2 : Int32) (x3 : Int32) (H : Heap) (locs : List Loc) (ls : Array Slot), va_P D vCl (wX g ca a σ ++ tl) H → va_D A (wX g ca a σ ++ tl) → va_S A s.heap H locs → lv_has ls 5 [(0, .ref (a 26)), (1, .int x1), (2, .int x2), (3, .int x3)] → f_A_isRepeated_84 N K2 σ x1 x2 x3 = some (r, σ') → W p l e R s m args below meth c H locs 0 0 (MQ below (qb_QI D vCl (tyX ca) (wX g ca a σ' ++ tl) A r) args s 0 0 A) (F0 m 84 ls []) := by
                    intro σ x1 x2 x3 H locs ls hP hD hS hl h
                    unfold f_A_isRepeated_84 at h
                    refine lv_iload_n hx hb d_A_isRepeated_84 rfl (lv_at hl 3 rfl) ?_
                    refine lv_if_eq (tgt := 90) hx hb d_A_isRepeated_85 (by decide) (fun hc => ?_) (fun hc => ?_)
                    · replace h := it_t h hc
                      refine lv_iinc (v := (x2 + 1)) (lv' := [(2, .int (x2 + 1)), (0, .ref (a 26)), (1, .int x1), (3, .int x3)]) hx hb d_A_isRepeated_90 hl (k := 2) rfl rfl (by decide) rfl (fun ls hl => ?_)
                      refine lv_goto (tgt := 2) hx hb d_A_isRepeated_93 (by decide) ?_
                      exact ih2 σ x1 (x2 + 1) H locs ls hP hD hS (lv_sub hl [1, 2, 0] rfl) h
                    · replace h := it_f h hc
                      refine lv_iconst (v := (1 : Int32)) hx hb d_A_isRepeated_88 (by decide) ?_
                      exact rf_Z (w := (fun z => wX g ca a z ++ tl)) h hx hb hr hlk hK hP hD hS rfl d_A_isRepeated_89
                  refine lv_if_eq (tgt := 84) hx hb d_A_isRepeated_32 (by decide) (fun hc => ?_) (fun hc => ?_)
                  · replace h := it_t h hc
                    exact L84 σ x1 x2 x3 H locs ls hP hD hS (lv_sub hl [0, 1, 2, 3] rfl) h
                  · replace h := it_f h hc
                    refine lv_iload hx hb d_A_isRepeated_35 (lv_at hl 4 rfl) ?_
                    refine lv_aload_n hx hb d_A_isRepeated_37 rfl (lv_at hl 0 rfl) ?_
                    refine Xg_26_0 hx hb hB hown (hB _ m_284) hK hP d_A_isRepeated_38 ?_
                    refine lv_icmp_ge (tgt := 84) hx hb d_A_isRepeated_41 (by decide) (fun hc => ?_) (fun hc => ?_)
                    · replace h := it_t h hc
                      exact L84 σ x1 x2 x3 H locs ls hP hD hS (lv_sub hl [0, 1, 2, 3] rfl) h
                    · replace h := it_f h hc
                      refine lv_aload_n hx hb d_A_isRepeated_44 rfl (lv_at hl 0 rfl) ?_
                      refine Xg_26_4 hx hb hB hown (hB _ m_290) hK hP d_A_isRepeated_45 ?_
                      refine lv_iload_n hx hb d_A_isRepeated_48 rfl (lv_at hl 2 rfl) ?_
                      refine lv_bipush (v := (6 : Int32)) hx hb d_A_isRepeated_49 (by decide) ?_
                      refine lv_imul hx hb d_A_isRepeated_51 ?_
                      refine lv_iload hx hb d_A_isRepeated_52 (lv_at hl 4 rfl) ?_
                      refine lv_iadd hx hb d_A_isRepeated_54 ?_
                      obtain ⟨hi, h⟩ := ckb_some h
                      refine Xa_27 hx hb hK hP hi d_A_isRepeated_55 ?_
                      refine lv_aload_n hx hb d_A_isRepeated_56 rfl (lv_at hl 0 rfl) ?_
                      refine Xg_26_4 hx hb hB hown (hB _ m_290) hK hP d_A_isRepeated_57 ?_
                      refine lv_iload_n hx hb d_A_isRepeated_60 rfl (lv_at hl 1 rfl) ?_
                      refine lv_bipush (v := (6 : Int32)) hx hb d_A_isRepeated_61 (by decide) ?_
                      refine lv_imul hx hb d_A_isRepeated_63 ?_
                      refine lv_iload hx hb d_A_isRepeated_64 (lv_at hl 4 rfl) ?_
                      refine lv_iadd hx hb d_A_isRepeated_66 ?_
                      obtain ⟨hi, h⟩ := ckb_some h
                      refine Xa_27 hx hb hK hP hi d_A_isRepeated_67 ?_
                      refine W.lcmp hx hb d_A_isRepeated_68 ?_
                      refine lv_if_ne (tgt := 76) hx hb d_A_isRepeated_69 (by decide) (fun hc => ?_) (fun hc => ?_)
                      · replace h := it_f h hc
                        refine lv_iconst (v := (0 : Int32)) hx hb d_A_isRepeated_76 (by decide) ?_
                        refine lv_istore_n (lv' := [(3, .int (0 : Int32)), (0, .ref (a 26)), (1, .int x1), (2, .int x2), (4, .int x4)]) hx hb d_A_isRepeated_77 rfl hl (by decide) rfl (fun ls hl => ?_)
                        refine lv_iinc (v := (x4 + 1)) (lv' := [(4, .int (x4 + 1)), (3, .int (0 : Int32)), (0, .ref (a 26)), (1, .int x1), (2, .int x2)]) hx hb d_A_isRepeated_78 hl (k := 4) rfl rfl (by decide) rfl (fun ls hl => ?_)
                        refine lv_goto (tgt := 31) hx hb d_A_isRepeated_81 (by decide) ?_
                        exact ih31 σ x1 x2 (0 : Int32) (x4 + 1) H locs ls hP hD hS (lv_sub hl [2, 3, 4, 1, 0] rfl) h
                      · replace h := it_t h hc
                        refine lv_iconst (v := (1 : Int32)) hx hb d_A_isRepeated_72 (by decide) ?_
                        refine lv_goto (tgt := 77) hx hb d_A_isRepeated_73 (by decide) ?_
                        refine lv_istore_n (lv' := [(3, .int (1 : Int32)), (0, .ref (a 26)), (1, .int x1), (2, .int x2), (4, .int x4)]) hx hb d_A_isRepeated_77 rfl hl (by decide) rfl (fun ls hl => ?_)
                        refine lv_iinc (v := (x4 + 1)) (lv' := [(4, .int (x4 + 1)), (3, .int (1 : Int32)), (0, .ref (a 26)), (1, .int x1), (2, .int x2)]) hx hb d_A_isRepeated_78 hl (k := 4) rfl rfl (by decide) rfl (fun ls hl => ?_)
                        refine lv_goto (tgt := 31) hx hb d_A_isRepeated_81 (by decide) ?_
                        exact ih31 σ x1 x2 (1 : Int32) (x4 + 1) H locs ls hP hD hS (lv_sub hl [2, 3, 4, 1, 0] rfl) h
            refine lv_istore (lv' := [(4, .int (0 : Int32)), (3, .int (1 : Int32)), (0, .ref (a 26)), (1, .int x1), (2, .int x2)]) hx hb d_A_isRepeated_29 hl (by decide) rfl (fun ls hl => ?_)
            exact L31 N σ x1 x2 (1 : Int32) (0 : Int32) H locs ls hP hD hS (lv_sub hl [2, 3, 4, 1, 0] rfl) h
  refine lv_istore_n (lv' := [(2, .int (0 : Int32)), (0, .ref (a 26)), (1, .int x1)]) hx hb d_A_isRepeated_1 rfl hl (by decide) rfl (fun ls hl => ?_)
  exact L2 N σ x1 (0 : Int32) H locs ls hP hD hS (lv_sub hl [1, 2, 0] rfl) h
set_option maxRecDepth 100000 in
set_option maxHeartbeats 4000000 in
theorem c_A_finish (l : Launch) (D : va_G) (ca : Nat → ClassId) (g : Bool) (a : Nat → Nat) (tl : va_W) (N : Nat) (σ σ' : St) (h : f_A_finish N σ = some ((), σ')) : CtV l y_A_finish ws_A_finish rm_A_finish 0 0 D vCl (tyX ca) nwX [.ref (a 26), .ref (a 18)] (wX g ca a σ ++ tl) (wX g ca a σ' ++ tl) := by
  refine en_V (ws' := BIG) (by decide +kernel) rfl (Nat.le_of_ble_eq_true rfl) ?_
  intro p e s m below meth c A ls R args H locs hR hx hb hr hlk hml hown hB hK hN hP hD hA hS hl
  have hl : lv_has ls 4 [(0, .ref (a 26)), (1, .ref (a 18))] := hl
  unfold f_A_finish at h
  refine lv_aload_n hx hb d_A_finish_0 rfl (lv_at hl 0 rfl) ?_
  refine lv_aload_n hx hb d_A_finish_1 rfl (lv_at hl 1 rfl) ?_
  refine Xg_18_8 hx hb hB hown (hB _ m_227) hK hP d_A_finish_2 ?_
  obtain ⟨s1, es1, h⟩ := nm_some h
  refine Xp_26_0 es1 hx hb hB hown (hB _ m_284) hK hP hD hS d_A_finish_5 (fun H locs hP hD hS => ?_)
  refine lv_iconst (v := (0 : Int32)) hx hb d_A_finish_8 (by decide) ?_
  refine lv_istore_n (lv' := [(2, .int (0 : Int32)), (0, .ref (a 26)), (1, .ref (a 18))]) hx hb d_A_finish_9 rfl hl (by decide) rfl (fun ls hl => ?_)
  refine lv_iconst (v := (0 : Int32)) hx hb d_A_finish_10 (by decide) ?_
  have L12 : ∀ (n : Nat) (σ : St) (x2 : Int32) (x3 : Int32) (H : Heap) (locs : List Loc) (ls : Array Slot), va_P D vCl (wX g ca a σ ++ tl) H → va_D A (wX g ca a σ ++ tl) → va_S A s.heap H locs → lv_has ls 4 [(0, .ref (a 26)), (1, .ref (a 18)), (2, .int x2), (3, .int x3)] → f_A_finish_12 N n σ x2 x3 = some ((), σ') → W p l e R s m args below meth c H locs 0 0 (MQ below (qb_QV D vCl (tyX ca) (wX g ca a σ' ++ tl) A) args s 0 0 A) (F0 m 12 ls []) := by
    intro n
    induction n with
    | zero => intro σ x2 x3 H locs ls hP hD hS hl h; cases h
    | succ n ih12 =>
        intro σ x2 x3 H locs ls hP hD hS hl h
        obtain ⟨K12, eK12⟩ : ∃ K, K = f_A_finish_12 N n := ⟨_, rfl⟩
        rw [← eK12] at ih12
        replace h : f_A_finish_12_b N K12 σ x2 x3 = some ((), σ') := by rw [eK12]; exact h
        unfold f_A_finish_12_b at h
        refine lv_iload_n hx hb d_A_finish_12 rfl (lv_at hl 3 rfl) ?_
        refine lv_aload_n hx hb d_A_finish_13 rfl (lv_at hl 0 rfl) ?_
        refine Xg_26_2 hx hb hB hown (hB _ m_288) hK hP d_A_finish_14 ?_
        refine lv_icmp_ge (tgt := 51) hx hb d_A_finish_17 (by decide) (fun hc => ?_) (fun hc => ?_)
        · replace h := it_t h hc
          refine lv_aload_n hx hb d_A_finish_51 rfl (lv_at hl 0 rfl) ?_
          refine lv_aload_n hx hb d_A_finish_52 rfl (lv_at hl 1 rfl) ?_
          refine Xg_18_15 hx hb hB hown (hB _ m_244) hK hP d_A_finish_53 ?_
          refine lv_iload_n hx hb d_A_finish_56 rfl (lv_at hl 2 rfl) ?_
          refine va_mmin hx hb (hml.trans hl.1.symm) hown (hB _ m_830) (hB _ m_422) (hB _ m_82) (hB _ m_423) (by rw [hR]; exact Nat.le_of_ble_eq_true rfl) (by rw [hR]; exact Nat.le_of_ble_eq_true rfl) (by rw [hR]; exact Nat.le_of_ble_eq_true rfl) (by rw [hR]; exact Nat.le_of_ble_eq_true rfl) d_A_finish_57 ?_
          obtain ⟨s2, es2, h⟩ := nm_some h
          refine Xp_26_3 es2 hx hb hB hown (hB _ m_289) hK hP hD hS d_A_finish_60 (fun H locs hP hD hS => ?_)
          refine lv_aload_n hx hb d_A_finish_63 rfl (lv_at hl 0 rfl) ?_
          refine lv_aload_n hx hb d_A_finish_64 rfl (lv_at hl 1 rfl) ?_
          refine Xg_18_14 hx hb hB hown (hB _ m_242) hK hP d_A_finish_65 ?_
          refine lv_iload_n hx hb d_A_finish_68 rfl (lv_at hl 2 rfl) ?_
          refine lv_aload_n hx hb d_A_finish_69 rfl (lv_at hl 0 rfl) ?_
          refine Xg_26_3 hx hb hB hown (hB _ m_289) hK hP d_A_finish_70 ?_
          refine lv_isub hx hb d_A_finish_73 ?_
          refine va_mmin hx hb (hml.trans hl.1.symm) hown (hB _ m_830) (hB _ m_422) (hB _ m_82) (hB _ m_423) (by rw [hR]; exact Nat.le_of_ble_eq_true rfl) (by rw [hR]; exact Nat.le_of_ble_eq_true rfl) (by rw [hR]; exact Nat.le_of_ble_eq_true rfl) (by rw [hR]; exact Nat.le_of_ble_eq_true rfl) d_A_finish_74 ?_
          obtain ⟨s3, es3, h⟩ := nm_some h
          refine Xp_26_1 es3 hx hb hB hown (hB _ m_286) hK hP hD hS d_A_finish_77 (fun H locs hP hD hS => ?_)
          exact rf_V (w := (fun z => wX g ca a z ++ tl)) h hx hb hr hlk hK hP hD hS d_A_finish_80
        · replace h := it_f h hc
          refine lv_aload_n hx hb d_A_finish_20 rfl (lv_at hl 1 rfl) ?_
          refine Xg_18_13 hx hb hB hown (hB _ m_240) hK hP d_A_finish_21 ?_
          have L35 : ∀ (σ : St) (x2 : Int32) (x3 : Int32) (H : Heap) (locs : List Loc) (ls : Array Slot), va_P D vCl (wX g ca a σ ++ tl) H → va_D A (wX g ca a σ ++ tl) → va_S A s.heap H locs → lv_has ls 4 [(0, .ref (a 26)), (1, .ref (a 18)), (2, .int x2), (3, .int x3)] → f_A_finish_35 N K12 σ x2 x3 = some ((), σ') → W p l e R s m args below meth c H locs 0 0 (MQ below (qb_QV D vCl (tyX ca) (wX g ca a σ' ++ tl) A) args s 0 0 A) (F0 m 35 ls []) := by
            intro σ x2 x3 H locs ls hP hD hS hl h
            unfold f_A_finish_35 at h
            refine lv_aload_n hx hb d_A_finish_35 rfl (lv_at hl 0 rfl) ?_
            refine lv_iload_n hx hb d_A_finish_36 rfl (lv_at hl 3 rfl) ?_
            refine lv_iload_n hx hb d_A_finish_37 rfl (lv_at hl 2 rfl) ?_
            refine lv_aload_n hx hb d_A_finish_38 rfl (lv_at hl 1 rfl) ?_
            obtain ⟨r4, s5, hr4, h⟩ := bd_some h
            cases r4
            refine go_VV (rest := []) ⟨hx, hb, hml, hown, hB⟩ nwX_ok (c_A_insertInOrder l D ca g a tl N σ s5 x3 x2 hr4) (cwx_V hB m_811 kw_A_insertInOrder ⟨by rw [hR]; decide, by rw [hR]; decide⟩ rfl rfl) (va_recv hK hP (ci := 2) (q0 := 26) rfl rfl) hN hK hP hD hS hA rfl hl.1 rfl (Nat.le_of_ble_eq_true rfl) d_A_finish_39 ⟨by rw [hR]; exact Nat.le_of_ble_eq_true rfl, by rw [hR]; exact Nat.le_of_ble_eq_true rfl⟩ (fun H locs hP hD hS => ?_)
            refine lv_iinc (v := (x2 + 1)) (lv' := [(2, .int (x2 + 1)), (0, .ref (a 26)), (1, .ref (a 18)), (3, .int x3)]) hx hb d_A_finish_42 hl (k := 2) rfl rfl (by decide) rfl (fun ls hl => ?_)
            refine lv_iinc (v := (x3 + 1)) (lv' := [(3, .int (x3 + 1)), (2, .int (x2 + 1)), (0, .ref (a 26)), (1, .ref (a 18))]) hx hb d_A_finish_45 hl (k := 3) rfl rfl (by decide) rfl (fun ls hl => ?_)
            refine lv_goto (tgt := 12) hx hb d_A_finish_48 (by decide) ?_
            exact ih12 s5 (x2 + 1) (x3 + 1) H locs ls hP hD hS (lv_sub hl [2, 3, 1, 0] rfl) h
          refine lv_if_eq (tgt := 35) hx hb d_A_finish_24 (by decide) (fun hc => ?_) (fun hc => ?_)
          · replace h := it_t h hc
            exact L35 σ x2 x3 H locs ls hP hD hS (lv_sub hl [0, 1, 2, 3] rfl) h
          · replace h := it_f h hc
            refine lv_aload_n hx hb d_A_finish_27 rfl (lv_at hl 0 rfl) ?_
            refine lv_iload_n hx hb d_A_finish_28 rfl (lv_at hl 3 rfl) ?_
            obtain ⟨r6, s7, hr6, h⟩ := bd_some h
            refine go_VI (rest := []) ⟨hx, hb, hml, hown, hB⟩ nwX_ok (c_A_isRepeated l D ca g a tl N σ s7 x3 r6 hr6) (cwx_V hB m_807 kw_A_isRepeated ⟨by rw [hR]; decide, by rw [hR]; decide⟩ rfl rfl) (va_recv hK hP (ci := 2) (q0 := 26) rfl rfl) hN hK hP hD hS hA rfl hl.1 rfl (Nat.le_of_ble_eq_true rfl) d_A_finish_29 ⟨by rw [hR]; exact Nat.le_of_ble_eq_true rfl, by rw [hR]; exact Nat.le_of_ble_eq_true rfl⟩ (fun H locs hP hD hS => ?_)
            refine lv_if_ne (tgt := 45) hx hb d_A_finish_32 (by decide) (fun hc => ?_) (fun hc => ?_)
            · replace h := it_f h hc
              refine lv_iinc (v := (x3 + 1)) (lv' := [(3, .int (x3 + 1)), (0, .ref (a 26)), (1, .ref (a 18)), (2, .int x2)]) hx hb d_A_finish_45 hl (k := 3) rfl rfl (by decide) rfl (fun ls hl => ?_)
              refine lv_goto (tgt := 12) hx hb d_A_finish_48 (by decide) ?_
              exact ih12 s7 x2 (x3 + 1) H locs ls hP hD hS (lv_sub hl [1, 2, 3, 0] rfl) h
            · replace h := it_t h hc
              exact L35 s7 x2 x3 H locs ls hP hD hS (lv_sub hl [0, 1, 2, 3] rfl) h
  refine lv_istore_n (lv' := [(3, .int (0 : Int32)), (2, .int (0 : Int32)), (0, .ref (a 26)), (1, .ref (a 18))]) hx hb d_A_finish_11 rfl hl (by decide) rfl (fun ls hl => ?_)
  exact L12 N s1 (0 : Int32) (0 : Int32) H locs ls hP hD hS (lv_sub hl [2, 3, 1, 0] rfl) h
set_option maxRecDepth 100000 in
set_option maxHeartbeats 4000000 in
theorem c_G_enter (l : Launch) (D : va_G) (ca : Nat → ClassId) (a : Nat → Nat) (tl : va_W) (N : Nat) (σ σ' : St) (x1 : Int32) (h : f_G_enter N σ x1 = some ((), σ')) : CtV l y_G_enter ws_G_enter rm_G_enter 0 0 D vCl (tyX ca) nwX [.ref (a 35), .int x1, .ref (a 34)] (wX true ca a σ ++ tl) (wX true ca a σ' ++ tl) := by
  refine en_V (ws' := BIG) (by decide +kernel) rfl (Nat.le_of_ble_eq_true rfl) ?_
  intro p e s m below meth c A ls R args H locs hR hx hb hr hlk hml hown hB hK hN hP hD hA hS hl
  have hl : lv_has ls 6 [(0, .ref (a 35)), (1, .int x1), (2, .ref (a 34))] := hl
  unfold f_G_enter at h
  refine lv_aload_n hx hb d_G_enter_0 rfl (lv_at hl 0 rfl) ?_
  refine lv_iload_n hx hb d_G_enter_1 rfl (lv_at hl 1 rfl) ?_
  obtain ⟨s1, es1, h⟩ := nm_some h
  refine Xp_35_13 es1 hx hb hB hown (hB _ m_630) hK hP hD hS d_G_enter_2 (fun H locs hP hD hS => ?_)
  refine lv_aload_n hx hb d_G_enter_5 rfl (lv_at hl 0 rfl) ?_
  refine Xg_35_5 hx hb hB hown (hB _ m_622) hK hP d_G_enter_6 ?_
  refine lv_iload_n hx hb d_G_enter_9 rfl (lv_at hl 1 rfl) ?_
  obtain ⟨hi, h⟩ := ckb_some h
  refine Xa_38 hx hb hK hP hi d_G_enter_10 ?_
  refine lv_istore_n (lv' := [(3, .int (ga s1 25 (x1).toNatClampNeg)), (0, .ref (a 35)), (1, .int x1), (2, .ref (a 34))]) hx hb d_G_enter_11 rfl hl (by decide) rfl (fun ls hl => ?_)
  refine lv_iload_n hx hb d_G_enter_12 rfl (lv_at hl 0 rfl) ?_
  refine lv_iconst (v := (-1 : Int32)) hx hb d_G_enter_13 (by decide) ?_
  refine lv_icmp_ne (tgt := 21) hx hb d_G_enter_14 (by decide) (fun hc => ?_) (fun hc => ?_)
  · replace h := it_f h hc
    refine lv_aload_n hx hb d_G_enter_21 rfl (lv_at hl 1 rfl) ?_
    refine Xg_35_8 hx hb hB hown (hB _ m_625) hK hP d_G_enter_22 ?_
    refine lv_iload_n hx hb d_G_enter_25 rfl (lv_at hl 0 rfl) ?_
    obtain ⟨hi, h⟩ := ckb_some h
    refine Xa_41 hx hb hK hP hi d_G_enter_26 ?_
    refine lv_istore (lv' := [(4, .int (ga s1 28 ((ga s1 25 (x1).toNatClampNeg)).toNatClampNeg)), (3, .int (ga s1 25 (x1).toNatClampNeg)), (0, .ref (a 35)), (1, .int x1), (2, .ref (a 34))]) hx hb d_G_enter_27 hl (by decide) rfl (fun ls hl => ?_)
    refine lv_iconst (v := (0 : Int32)) hx hb d_G_enter_29 (by decide) ?_
    have L32 : ∀ (n : Nat) (σ : St) (x4 : Int32) (x5 : Int32) (H : Heap) (locs : List Loc) (ls : Array Slot), va_P D vCl (wX true ca a σ ++ tl) H → va_D A (wX true ca a σ ++ tl) → va_S A s.heap H locs → lv_has ls 6 [(2, .ref (a 34)), (4, .int x4), (5, .int x5)] → f_G_enter_32 N n σ x4 x5 = some ((), σ') → W p l e R s m args below meth c H locs 0 0 (MQ below (qb_QV D vCl (tyX ca) (wX true ca a σ' ++ tl) A) args s 0 0 A) (F0 m 32 ls []) := by
      intro n
      induction n with
      | zero => intro σ x4 x5 H locs ls hP hD hS hl h; cases h
      | succ n ih32 =>
          intro σ x4 x5 H locs ls hP hD hS hl h
          obtain ⟨K32, eK32⟩ : ∃ K, K = f_G_enter_32 N n := ⟨_, rfl⟩
          rw [← eK32] at ih32
          replace h : f_G_enter_32_b N K32 σ x4 x5 = some ((), σ') := by rw [eK32]; exact h
          unfold f_G_enter_32_b at h
          refine lv_iload hx hb d_G_enter_32 (lv_at hl 2 rfl) ?_
          refine lv_aload_n hx hb d_G_enter_34 rfl (lv_at hl 0 rfl) ?_
          refine Xn_34 hx hb hK hP d_G_enter_35 ?_
          refine lv_icmp_ge (tgt := 61) hx hb d_G_enter_36 (by decide) (fun hc => ?_) (fun hc => ?_)
          · replace h := it_t h hc
            exact rf_V (w := (fun z => wX true ca a z ++ tl)) h hx hb hr hlk hK hP hD hS d_G_enter_61
          · replace h := it_f h hc
            refine lv_aload_n hx hb d_G_enter_39 rfl (lv_at hl 0 rfl) ?_
            refine lv_iload hx hb d_G_enter_40 (lv_at hl 2 rfl) ?_
            refine lv_iload hx hb d_G_enter_42 (lv_at hl 1 rfl) ?_
            refine lv_iconst (v := (4 : Int32)) hx hb d_G_enter_44 (by decide) ?_
            refine lv_iload hx hb d_G_enter_45 (lv_at hl 2 rfl) ?_
            refine lv_imul hx hb d_G_enter_47 ?_
            refine lv_ishr hx hb d_G_enter_48 ?_
            refine lv_bipush (v := (15 : Int32)) hx hb d_G_enter_49 (by decide) ?_
            refine lv_iand hx hb d_G_enter_51 ?_
            refine lv_iconst (v := (1 : Int32)) hx hb d_G_enter_52 (by decide) ?_
            refine lv_isub hx hb d_G_enter_53 ?_
            obtain ⟨hi, h⟩ := ckb_some h
            obtain ⟨s2, es2, h⟩ := nm_some h
            refine Xs_34 es2 hx hb hK hP hD hS hi d_G_enter_54 (fun H locs hP hD hS => ?_)
            refine lv_iinc (v := (x5 + 1)) (lv' := [(5, .int (x5 + 1)), (2, .ref (a 34)), (4, .int x4)]) hx hb d_G_enter_55 hl (k := 2) rfl rfl (by decide) rfl (fun ls hl => ?_)
            refine lv_goto (tgt := 32) hx hb d_G_enter_58 (by decide) ?_
            exact ih32 s2 x4 (x5 + 1) H locs ls hP hD hS (lv_sub hl [1, 2, 0] rfl) h
    refine lv_istore (lv' := [(5, .int (0 : Int32)), (4, .int (ga s1 28 ((ga s1 25 (x1).toNatClampNeg)).toNatClampNeg)), (3, .int (ga s1 25 (x1).toNatClampNeg)), (0, .ref (a 35)), (1, .int x1), (2, .ref (a 34))]) hx hb d_G_enter_30 hl (by decide) rfl (fun ls hl => ?_)
    exact L32 N s1 (ga s1 28 ((ga s1 25 (x1).toNatClampNeg)).toNatClampNeg) (0 : Int32) H locs ls hP hD hS (lv_sub hl [5, 1, 0] rfl) h
  · replace h := it_t h hc
    refine lv_iconst (v := (0 : Int32)) hx hb d_G_enter_17 (by decide) ?_
    refine lv_goto (tgt := 27) hx hb d_G_enter_18 (by decide) ?_
    refine lv_istore (lv' := [(4, .int (0 : Int32)), (3, .int (ga s1 25 (x1).toNatClampNeg)), (0, .ref (a 35)), (1, .int x1), (2, .ref (a 34))]) hx hb d_G_enter_27 hl (by decide) rfl (fun ls hl => ?_)
    refine lv_iconst (v := (0 : Int32)) hx hb d_G_enter_29 (by decide) ?_
    have L32 : ∀ (n : Nat) (σ : St) (x4 : Int32) (x5 : Int32) (H : Heap) (locs : List Loc) (ls : Array Slot), va_P D vCl (wX true ca a σ ++ tl) H → va_D A (wX true ca a σ ++ tl) → va_S A s.heap H locs → lv_has ls 6 [(2, .ref (a 34)), (4, .int x4), (5, .int x5)] → f_G_enter_32 N n σ x4 x5 = some ((), σ') → W p l e R s m args below meth c H locs 0 0 (MQ below (qb_QV D vCl (tyX ca) (wX true ca a σ' ++ tl) A) args s 0 0 A) (F0 m 32 ls []) := by
      intro n
      induction n with
      | zero => intro σ x4 x5 H locs ls hP hD hS hl h; cases h
      | succ n ih32 =>
          intro σ x4 x5 H locs ls hP hD hS hl h
          obtain ⟨K32, eK32⟩ : ∃ K, K = f_G_enter_32 N n := ⟨_, rfl⟩
          rw [← eK32] at ih32
          replace h : f_G_enter_32_b N K32 σ x4 x5 = some ((), σ') := by rw [eK32]; exact h
          unfold f_G_enter_32_b at h
          refine lv_iload hx hb d_G_enter_32 (lv_at hl 2 rfl) ?_
          refine lv_aload_n hx hb d_G_enter_34 rfl (lv_at hl 0 rfl) ?_
          refine Xn_34 hx hb hK hP d_G_enter_35 ?_
          refine lv_icmp_ge (tgt := 61) hx hb d_G_enter_36 (by decide) (fun hc => ?_) (fun hc => ?_)
          · replace h := it_t h hc
            exact rf_V (w := (fun z => wX true ca a z ++ tl)) h hx hb hr hlk hK hP hD hS d_G_enter_61
          · replace h := it_f h hc
            refine lv_aload_n hx hb d_G_enter_39 rfl (lv_at hl 0 rfl) ?_
            refine lv_iload hx hb d_G_enter_40 (lv_at hl 2 rfl) ?_
            refine lv_iload hx hb d_G_enter_42 (lv_at hl 1 rfl) ?_
            refine lv_iconst (v := (4 : Int32)) hx hb d_G_enter_44 (by decide) ?_
            refine lv_iload hx hb d_G_enter_45 (lv_at hl 2 rfl) ?_
            refine lv_imul hx hb d_G_enter_47 ?_
            refine lv_ishr hx hb d_G_enter_48 ?_
            refine lv_bipush (v := (15 : Int32)) hx hb d_G_enter_49 (by decide) ?_
            refine lv_iand hx hb d_G_enter_51 ?_
            refine lv_iconst (v := (1 : Int32)) hx hb d_G_enter_52 (by decide) ?_
            refine lv_isub hx hb d_G_enter_53 ?_
            obtain ⟨hi, h⟩ := ckb_some h
            obtain ⟨s3, es3, h⟩ := nm_some h
            refine Xs_34 es3 hx hb hK hP hD hS hi d_G_enter_54 (fun H locs hP hD hS => ?_)
            refine lv_iinc (v := (x5 + 1)) (lv' := [(5, .int (x5 + 1)), (2, .ref (a 34)), (4, .int x4)]) hx hb d_G_enter_55 hl (k := 2) rfl rfl (by decide) rfl (fun ls hl => ?_)
            refine lv_goto (tgt := 32) hx hb d_G_enter_58 (by decide) ?_
            exact ih32 s3 x4 (x5 + 1) H locs ls hP hD hS (lv_sub hl [1, 2, 0] rfl) h
    refine lv_istore (lv' := [(5, .int (0 : Int32)), (4, .int (0 : Int32)), (3, .int (ga s1 25 (x1).toNatClampNeg)), (0, .ref (a 35)), (1, .int x1), (2, .ref (a 34))]) hx hb d_G_enter_30 hl (by decide) rfl (fun ls hl => ?_)
    exact L32 N s1 (0 : Int32) (0 : Int32) H locs ls hP hD hS (lv_sub hl [5, 1, 0] rfl) h
set_option maxRecDepth 100000 in
set_option maxHeartbeats 4000000 in
theorem c_A_isFull (l : Launch) (D : va_G) (ca : Nat → ClassId) (g : Bool) (a : Nat → Nat) (tl : va_W) (N : Nat) (σ σ' : St) (r : Int32) (h : f_A_isFull N σ = some (r, σ')) : CtI l y_A_isFull ws_A_isFull rm_A_isFull 0 0 D vCl (tyX ca) nwX [.ref (a 26)] (wX g ca a σ ++ tl) (wX g ca a σ' ++ tl) r := by
  refine en_Z (ws' := BIG) (by decide +kernel) rfl (Nat.le_of_ble_eq_true rfl) ?_
  intro p e s m below meth c A ls R args H locs hR hx hb hr hlk hml hown hB hK hN hP hD hA hS hl
  have hl : lv_has ls 1 [(0, .ref (a 26))] := hl
  unfold f_A_isFull at h
  refine lv_aload_n hx hb d_A_isFull_0 rfl (lv_at hl 0 rfl) ?_
  refine Xg_26_2 hx hb hB hown (hB _ m_288) hK hP d_A_isFull_1 ?_
  refine lv_sipush (v := (200 : Int32)) hx hb d_A_isFull_4 (by decide) ?_
  refine lv_icmp_lt (tgt := 14) hx hb d_A_isFull_7 (by decide) (fun hc => ?_) (fun hc => ?_)
  · replace h := it_t h hc
    refine lv_iconst (v := (0 : Int32)) hx hb d_A_isFull_14 (by decide) ?_
    exact rf_Z (w := (fun z => wX g ca a z ++ tl)) h hx hb hr hlk hK hP hD hS rfl d_A_isFull_15
  · replace h := it_f h hc
    refine lv_iconst (v := (1 : Int32)) hx hb d_A_isFull_10 (by decide) ?_
    refine lv_goto (tgt := 15) hx hb d_A_isFull_11 (by decide) ?_
    exact rf_Z (w := (fun z => wX g ca a z ++ tl)) h hx hb hr hlk hK hP hD hS rfl d_A_isFull_15
set_option maxRecDepth 100000 in
set_option maxHeartbeats 4000000 in
theorem c_A_startRow (l : Launch) (D : va_G) (ca : Nat → ClassId) (g : Bool) (a : Nat → Nat) (tl : va_W) (N : Nat) (σ σ' : St) (h : f_A_startRow N σ = some ((), σ')) : CtV l y_A_startRow ws_A_startRow rm_A_startRow 0 0 D vCl (tyX ca) nwX [.ref (a 26)] (wX g ca a σ ++ tl) (wX g ca a σ' ++ tl) := by
  refine en_V (ws' := BIG) (by decide +kernel) rfl (Nat.le_of_ble_eq_true rfl) ?_
  intro p e s m below meth c A ls R args H locs hR hx hb hr hlk hml hown hB hK hN hP hD hA hS hl
  have hl : lv_has ls 1 [(0, .ref (a 26))] := hl
  unfold f_A_startRow at h
  refine lv_aload_n hx hb d_A_startRow_0 rfl (lv_at hl 0 rfl) ?_
  refine Xg_26_5 hx hb hB hown (hB _ m_291) hK hP d_A_startRow_1 ?_
  refine lv_aload_n hx hb d_A_startRow_4 rfl (lv_at hl 0 rfl) ?_
  refine Xg_26_2 hx hb hB hown (hB _ m_288) hK hP d_A_startRow_5 ?_
  refine lv_iconst (v := (0 : Int32)) hx hb d_A_startRow_8 (by decide) ?_
  obtain ⟨hi, h⟩ := ckb_some h
  obtain ⟨s1, es1, h⟩ := nm_some h
  refine Xs_28 es1 hx hb hK hP hD hS hi d_A_startRow_9 (fun H locs hP hD hS => ?_)
  exact rf_V (w := (fun z => wX g ca a z ++ tl)) h hx hb hr hlk hK hP hD hS d_A_startRow_10
set_option maxRecDepth 100000 in
set_option maxHeartbeats 4000000 in
theorem c_A_endRow (l : Launch) (D : va_G) (ca : Nat → ClassId) (g : Bool) (a : Nat → Nat) (tl : va_W) (N : Nat) (σ σ' : St) (h : f_A_endRow N σ = some ((), σ')) : CtV l y_A_endRow ws_A_endRow rm_A_endRow 0 0 D vCl (tyX ca) nwX [.ref (a 26)] (wX g ca a σ ++ tl) (wX g ca a σ' ++ tl) := by
  refine en_V (ws' := BIG) (by decide +kernel) rfl (Nat.le_of_ble_eq_true rfl) ?_
  intro p e s m below meth c A ls R args H locs hR hx hb hr hlk hml hown hB hK hN hP hD hA hS hl
  have hl : lv_has ls 1 [(0, .ref (a 26))] := hl
  unfold f_A_endRow at h
  refine lv_aload_n hx hb d_A_endRow_0 rfl (lv_at hl 0 rfl) ?_
  refine lv_dup hx hb d_A_endRow_1 rfl ?_
  refine Xg_26_2 hx hb hB hown (hB _ m_288) hK hP d_A_endRow_2 ?_
  refine lv_iconst (v := (1 : Int32)) hx hb d_A_endRow_5 (by decide) ?_
  refine lv_iadd hx hb d_A_endRow_6 ?_
  obtain ⟨s1, es1, h⟩ := nm_some h
  refine Xp_26_2 es1 hx hb hB hown (hB _ m_288) hK hP hD hS d_A_endRow_7 (fun H locs hP hD hS => ?_)
  exact rf_V (w := (fun z => wX g ca a z ++ tl)) h hx hb hr hlk hK hP hD hS d_A_endRow_10
set_option maxRecDepth 100000 in
set_option maxHeartbeats 4000000 in
theorem c_V_lookUp (l : Launch) (D : va_G) (ca : Nat → ClassId) (g : Bool) (a : Nat → Nat) (tl : va_W) (N : Nat) (σ σ' : St) (x1 : Int32) (r : Int32) (h : f_V_lookUp N σ x1 = some (r, σ')) : CtI l y_V_lookUp ws_V_lookUp rm_V_lookUp 0 0 D vCl (tyX ca) nwX [.ref (a 33), .int x1] (wX g ca a σ ++ tl) (wX g ca a σ' ++ tl) r := by
  refine en_I (ws' := BIG) (by decide +kernel) rfl (Nat.le_of_ble_eq_true rfl) ?_
  intro p e s m below meth c A ls R args H locs hR hx hb hr hlk hml hown hB hK hN hP hD hA hS hl
  have hl : lv_has ls 6 [(0, .ref (a 33)), (1, .int x1)] := hl
  unfold f_V_lookUp at h
  refine lv_iload_n hx hb d_V_lookUp_0 rfl (lv_at hl 1 rfl) ?_
  refine lv_iconst (v := (4 : Int32)) hx hb d_V_lookUp_1 (by decide) ?_
  refine lv_idiv hx hb d_V_lookUp_2 (by decide) ?_
  refine lv_istore_n (lv' := [(2, .int (x1 / (4 : Int32))), (0, .ref (a 33)), (1, .int x1)]) hx hb d_V_lookUp_3 rfl hl (by decide) rfl (fun ls hl => ?_)
  refine lv_iload_n hx hb d_V_lookUp_4 rfl (lv_at hl 2 rfl) ?_
  refine lv_iconst (v := (4 : Int32)) hx hb d_V_lookUp_5 (by decide) ?_
  refine lv_irem hx hb d_V_lookUp_6 (by decide) ?_
  refine lv_istore_n (lv' := [(3, .int (x1 - x1 / (4 : Int32) * (4 : Int32))), (2, .int (x1 / (4 : Int32))), (0, .ref (a 33)), (1, .int x1)]) hx hb d_V_lookUp_7 rfl hl (by decide) rfl (fun ls hl => ?_)
  refine lv_aload_n hx hb d_V_lookUp_8 rfl (lv_at hl 2 rfl) ?_
  refine Xg_33_3 hx hb hB hown (hB _ m_342) hK hP d_V_lookUp_9 ?_
  refine lv_iload_n hx hb d_V_lookUp_12 rfl (lv_at hl 1 rfl) ?_
  obtain ⟨hi, h⟩ := ckb_some h
  refine Xa_34 hx hb hK hP hi d_V_lookUp_13 ?_
  refine lv_istore (lv' := [(4, .int (ga σ 23 ((x1 / (4 : Int32))).toNatClampNeg)), (3, .int (x1 - x1 / (4 : Int32) * (4 : Int32))), (2, .int (x1 / (4 : Int32))), (0, .ref (a 33)), (1, .int x1)]) hx hb d_V_lookUp_14 hl (by decide) rfl (fun ls hl => ?_)
  refine lv_iload hx hb d_V_lookUp_16 (lv_at hl 0 rfl) ?_
  refine lv_iconst (v := (-1 : Int32)) hx hb d_V_lookUp_18 (by decide) ?_
  refine lv_icmp_ne (tgt := 24) hx hb d_V_lookUp_19 (by decide) (fun hc => ?_) (fun hc => ?_)
  · replace h := it_f h hc
    refine lv_aload_n hx hb d_V_lookUp_24 rfl (lv_at hl 3 rfl) ?_
    refine Xg_33_2 hx hb hB hown (hB _ m_341) hK hP d_V_lookUp_25 ?_
    refine Xg_18_1 hx hb hB hown (hB _ m_202) hK hP d_V_lookUp_28 ?_
    refine lv_iload_n hx hb d_V_lookUp_31 rfl (lv_at hl 2 rfl) ?_
    obtain ⟨hi, h⟩ := ckb_some h
    refine Xa_19 hx hb hK hP hi d_V_lookUp_32 ?_
    refine lv_bipush (v := (8 : Int32)) hx hb d_V_lookUp_33 (by decide) ?_
    refine lv_imul hx hb d_V_lookUp_35 ?_
    refine lv_iload hx hb d_V_lookUp_36 (lv_at hl 0 rfl) ?_
    refine lv_iadd hx hb d_V_lookUp_38 ?_
    refine lv_istore (lv' := [(5, .int (((ga σ 13 ((x1 / (4 : Int32))).toNatClampNeg) * (8 : Int32)) + (ga σ 23 ((x1 / (4 : Int32))).toNatClampNeg))), (4, .int (ga σ 23 ((x1 / (4 : Int32))).toNatClampNeg)), (3, .int (x1 - x1 / (4 : Int32) * (4 : Int32))), (2, .int (x1 / (4 : Int32))), (0, .ref (a 33)), (1, .int x1)]) hx hb d_V_lookUp_39 hl (by decide) rfl (fun ls hl => ?_)
    refine lv_aload_n hx hb d_V_lookUp_41 rfl (lv_at hl 4 rfl) ?_
    refine Xg_33_0 hx hb hB hown (hB _ m_339) hK hP d_V_lookUp_42 ?_
    refine Xg_1_4 hx hb hB hown (hB _ m_111) hK hP d_V_lookUp_45 ?_
    refine lv_iload hx hb d_V_lookUp_48 (lv_at hl 0 rfl) ?_
    obtain ⟨hi, h⟩ := ckb_some h
    refine Xa_5 hx hb hK hP hi d_V_lookUp_50 ?_
    refine lv_iload_n hx hb d_V_lookUp_51 rfl (lv_at hl 2 rfl) ?_
    refine lv_ishr hx hb d_V_lookUp_52 ?_
    refine lv_iconst (v := (1 : Int32)) hx hb d_V_lookUp_53 (by decide) ?_
    refine lv_iand hx hb d_V_lookUp_54 ?_
    refine lv_if_eq (tgt := 60) hx hb d_V_lookUp_55 (by decide) (fun hc => ?_) (fun hc => ?_)
    · replace h := it_t h hc
      refine lv_aload_n hx hb d_V_lookUp_60 rfl (lv_at hl 4 rfl) ?_
      refine lv_aload_n hx hb d_V_lookUp_61 rfl (lv_at hl 4 rfl) ?_
      refine Xg_33_0 hx hb hB hown (hB _ m_339) hK hP d_V_lookUp_62 ?_
      refine Xg_1_3 hx hb hB hown (hB _ m_109) hK hP d_V_lookUp_65 ?_
      refine lv_iload hx hb d_V_lookUp_68 (lv_at hl 0 rfl) ?_
      refine lv_iconst (v := (4 : Int32)) hx hb d_V_lookUp_70 (by decide) ?_
      refine lv_imul hx hb d_V_lookUp_71 ?_
      refine lv_iload_n hx hb d_V_lookUp_72 rfl (lv_at hl 2 rfl) ?_
      refine lv_iadd hx hb d_V_lookUp_73 ?_
      obtain ⟨hi, h⟩ := ckb_some h
      refine Xa_4 hx hb hK hP hi d_V_lookUp_74 ?_
      obtain ⟨s1, es1, h⟩ := nm_some h
      refine Xp_33_5 es1 hx hb hB hown (hB _ m_346) hK hP hD hS d_V_lookUp_75 (fun H locs hP hD hS => ?_)
      refine lv_iconst (v := (1 : Int32)) hx hb d_V_lookUp_78 (by decide) ?_
      exact rf_I (w := (fun z => wX g ca a z ++ tl)) h hx hb hr hlk hK hP hD hS d_V_lookUp_79
    · replace h := it_f h hc
      refine lv_iconst (v := (0 : Int32)) hx hb d_V_lookUp_58 (by decide) ?_
      exact rf_I (w := (fun z => wX g ca a z ++ tl)) h hx hb hr hlk hK hP hD hS d_V_lookUp_59
  · replace h := it_t h hc
    refine lv_iconst (v := (0 : Int32)) hx hb d_V_lookUp_22 (by decide) ?_
    exact rf_I (w := (fun z => wX g ca a z ++ tl)) h hx hb hr hlk hK hP hD hS d_V_lookUp_23
