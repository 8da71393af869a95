set_option maxRecDepth 100000 in
set_option maxHeartbeats 4000000 in
theorem c_A_compareItem (l : Launch) (D : va_G) (ca : Nat → ClassId) (g : Bool) (a : Nat → Nat) (tl : va_W) (N : Nat) (σ σ' : St) (x1 : Int32) (x2 : Int32) (x3 : Int32) (r : Int32) (h : f_A_compareItem N σ x1 x2 x3 = some (r, σ')) : CtI l y_A_compareItem ws_A_compareItem rm_A_compareItem 0 0 D vCl (tyX ca) nwX [.ref (a 26), .int x1, .int x2, .int x3] (wX g ca a σ ++ tl) (wX g ca a σ' ++ tl) r := by
  refine en_I (ws' := BIG) (by decide +kernel) rfl (Nat.le_of_ble_eq_true rfl) ?_
  intro p e s m below meth c A ls R args H locs hR hx hb hr hlk hml hown hB hK hN hP hD hA hS hl
  have hl : lv_has ls 6 [(0, .ref (a 26)), (1, .int x1), (2, .int x2), (3, .int x3)] := hl
  unfold f_A_compareItem at h
  refine lv_aload_n hx hb d_A_compareItem_0 rfl (lv_at hl 0 rfl) ?_
  refine lv_iload_n hx hb d_A_compareItem_1 rfl (lv_at hl 1 rfl) ?_
  refine lv_iload_n hx hb d_A_compareItem_2 rfl (lv_at hl 3 rfl) ?_
  obtain ⟨r1, s2, hr1, h⟩ := bd_some h
  refine go_VI (rest := []) ⟨hx, hb, hml, hown, hB⟩ nwX_ok (c_A_isNullAt l D ca g a tl N σ s2 x1 x3 r1 hr1) (cwx_V hB m_814 kw_A_isNullAt ⟨by rw [hR]; decide, by rw [hR]; decide⟩ rfl rfl) (va_recv hK hP (ci := 2) (q0 := 26) rfl rfl) hN hK hP hD hS hA rfl hl.1 rfl (Nat.le_of_ble_eq_true rfl) d_A_compareItem_3 ⟨by rw [hR]; exact Nat.le_of_ble_eq_true rfl, by rw [hR]; exact Nat.le_of_ble_eq_true rfl⟩ (fun H locs hP hD hS => ?_)
  refine lv_istore (lv' := [(4, .int r1), (0, .ref (a 26)), (1, .int x1), (2, .int x2), (3, .int x3)]) hx hb d_A_compareItem_6 hl (by decide) rfl (fun ls hl => ?_)
  refine lv_aload_n hx hb d_A_compareItem_8 rfl (lv_at hl 1 rfl) ?_
  refine lv_iload_n hx hb d_A_compareItem_9 rfl (lv_at hl 3 rfl) ?_
  refine lv_iload_n hx hb d_A_compareItem_10 rfl (lv_at hl 4 rfl) ?_
  obtain ⟨r3, s4, hr3, h⟩ := bd_some h
  refine go_VI (rest := []) ⟨hx, hb, hml, hown, hB⟩ nwX_ok (c_A_isNullAt l D ca g a tl N s2 s4 x2 x3 r3 hr3) (cwx_V hB m_814 kw_A_isNullAt ⟨by rw [hR]; decide, by rw [hR]; decide⟩ rfl rfl) (va_recv hK hP (ci := 2) (q0 := 26) rfl rfl) hN hK hP hD hS hA rfl hl.1 rfl (Nat.le_of_ble_eq_true rfl) d_A_compareItem_11 ⟨by rw [hR]; exact Nat.le_of_ble_eq_true rfl, by rw [hR]; exact Nat.le_of_ble_eq_true rfl⟩ (fun H locs hP hD hS => ?_)
  refine lv_istore (lv' := [(5, .int r3), (4, .int r1), (0, .ref (a 26)), (1, .int x1), (2, .int x2), (3, .int x3)]) hx hb d_A_compareItem_14 hl (by decide) rfl (fun ls hl => ?_)
  refine lv_iload hx hb d_A_compareItem_16 (lv_at hl 1 rfl) ?_
  have L26 : ∀ (σ : St) (x4 : Int32) (x5 : Int32) (H : Heap) (locs : List Loc) (ls : Array Slot), va_P D vCl (wX g ca a σ ++ tl) H → va_D A (wX g ca a σ ++ tl) → va_S A s.heap H locs → lv_has ls 6 [(4, .int x4), (5, .int x5)] → f_A_compareItem_26 N σ x4 x5 = some (r, σ') → W p l e R s m args below meth c H locs 0 0 (MQ below (qb_QI D vCl (tyX ca) (wX g ca a σ' ++ tl) A r) args s 0 0 A) (F0 m 26 ls []) := by
    intro σ x4 x5 H locs ls hP hD hS hl h
    unfold f_A_compareItem_26 at h
    refine lv_iload hx hb d_A_compareItem_26 (lv_at hl 0 rfl) ?_
    have L40 : ∀ (σ : St) (x4 : Int32) (H : Heap) (locs : List Loc) (ls : Array Slot), va_P D vCl (wX g ca a σ ++ tl) H → va_D A (wX g ca a σ ++ tl) → va_S A s.heap H locs → lv_has ls 6 [(4, .int x4)] → f_A_compareItem_40 N σ x4 = some (r, σ') → W p l e R s m args below meth c H locs 0 0 (MQ below (qb_QI D vCl (tyX ca) (wX g ca a σ' ++ tl) A r) args s 0 0 A) (F0 m 40 ls []) := by
      intro σ x4 H locs ls hP hD hS hl h
      unfold f_A_compareItem_40 at h
      refine lv_iload hx hb d_A_compareItem_40 (lv_at hl 0 rfl) ?_
      refine lv_if_eq (tgt := 49) hx hb d_A_compareItem_42 (by decide) (fun hc => ?_) (fun hc => ?_)
      · replace h := it_t h hc
        refine lv_iconst (v := (1 : Int32)) hx hb d_A_compareItem_49 (by decide) ?_
        exact rf_I (w := (fun z => wX g ca a z ++ tl)) h hx hb hr hlk hK hP hD hS d_A_compareItem_50
      · replace h := it_f h hc
        refine lv_iconst (v := (-1 : Int32)) hx hb d_A_compareItem_45 (by decide) ?_
        refine lv_goto (tgt := 50) hx hb d_A_compareItem_46 (by decide) ?_
        exact rf_I (w := (fun z => wX g ca a z ++ tl)) h hx hb hr hlk hK hP hD hS d_A_compareItem_50
    refine lv_if_eq (tgt := 40) hx hb d_A_compareItem_28 (by decide) (fun hc => ?_) (fun hc => ?_)
    · replace h := it_t h hc
      exact L40 σ x4 H locs ls hP hD hS (lv_sub hl [0] rfl) h
    · replace h := it_f h hc
      refine lv_iload hx hb d_A_compareItem_31 (lv_at hl 1 rfl) ?_
      refine lv_if_eq (tgt := 40) hx hb d_A_compareItem_33 (by decide) (fun hc => ?_) (fun hc => ?_)
      · replace h := it_t h hc
        exact L40 σ x4 H locs ls hP hD hS (lv_sub hl [0] rfl) h
      · replace h := it_f h hc
        refine lv_iconst (v := (0 : Int32)) hx hb d_A_compareItem_36 (by decide) ?_
        refine lv_goto (tgt := 50) hx hb d_A_compareItem_37 (by decide) ?_
        exact rf_I (w := (fun z => wX g ca a z ++ tl)) h hx hb hr hlk hK hP hD hS d_A_compareItem_50
  refine lv_if_ne (tgt := 26) hx hb d_A_compareItem_18 (by decide) (fun hc => ?_) (fun hc => ?_)
  · replace h := it_f h hc
    exact L26 s4 r1 r3 H locs ls hP hD hS (lv_sub hl [1, 0] rfl) h
  · replace h := it_t h hc
    refine lv_iload hx hb d_A_compareItem_21 (lv_at hl 0 rfl) ?_
    refine lv_if_eq (tgt := 51) hx hb d_A_compareItem_23 (by decide) (fun hc => ?_) (fun hc => ?_)
    · replace h := it_t h hc
      refine lv_aload_n hx hb d_A_compareItem_51 rfl (lv_at hl 2 rfl) ?_
      refine Xg_26_4 hx hb hB hown (hB _ m_290) hK hP d_A_compareItem_52 ?_
      refine lv_iload_n hx hb d_A_compareItem_55 rfl (lv_at hl 3 rfl) ?_
      refine lv_bipush (v := (6 : Int32)) hx hb d_A_compareItem_56 (by decide) ?_
      refine lv_imul hx hb d_A_compareItem_58 ?_
      refine lv_iload_n hx hb d_A_compareItem_59 rfl (lv_at hl 5 rfl) ?_
      refine lv_iadd hx hb d_A_compareItem_60 ?_
      obtain ⟨hi, h⟩ := ckb_some h
      refine Xa_27 hx hb hK hP hi d_A_compareItem_61 ?_
      refine lv_aload_n hx hb d_A_compareItem_62 rfl (lv_at hl 2 rfl) ?_
      refine Xg_26_4 hx hb hB hown (hB _ m_290) hK hP d_A_compareItem_63 ?_
      refine lv_iload_n hx hb d_A_compareItem_66 rfl (lv_at hl 4 rfl) ?_
      refine lv_bipush (v := (6 : Int32)) hx hb d_A_compareItem_67 (by decide) ?_
      refine lv_imul hx hb d_A_compareItem_69 ?_
      refine lv_iload_n hx hb d_A_compareItem_70 rfl (lv_at hl 5 rfl) ?_
      refine lv_iadd hx hb d_A_compareItem_71 ?_
      obtain ⟨hi, h⟩ := ckb_some h
      refine Xa_27 hx hb hK hP hi d_A_compareItem_72 ?_
      obtain ⟨r5, s6, hr5, h⟩ := bd_some h
      refine go_SI (rest := []) ⟨hx, hb, hml, hown, hB⟩ nwX_ok (c_L_compare l D ca g a tl N s4 s6 (gb s4 2 (((x1 * (6 : Int32)) + x3)).toNatClampNeg) (gb s4 2 (((x2 * (6 : Int32)) + x3)).toNatClampNeg) r5 hr5) (cwx_S hB m_818 kw_L_compare ⟨by rw [hR]; decide, by rw [hR]; decide⟩ rfl rfl) hN hK hP hD hS hA rfl hl.1 rfl (Nat.le_of_ble_eq_true rfl) d_A_compareItem_73 ⟨by rw [hR]; exact Nat.le_of_ble_eq_true rfl, by rw [hR]; exact Nat.le_of_ble_eq_true rfl⟩ (fun H locs hP hD hS => ?_)
      exact rf_I (w := (fun z => wX g ca a z ++ tl)) h hx hb hr hlk hK hP hD hS d_A_compareItem_76
    · replace h := it_f h hc
      exact L26 s4 r1 r3 H locs ls hP hD hS (lv_sub hl [1, 0] rfl) h
set_option maxRecDepth 100000 in
set_option maxHeartbeats 4000000 in
theorem c_A_compare (l : Launch) (D : va_G) (ca : Nat → ClassId) (g : Bool) (a : Nat → Nat) (tl : va_W) (N : Nat) (σ σ' : St) (x1 : Int32) (x2 : Int32) (r : Int32) (h : f_A_compare N σ x1 x2 = some (r, σ')) : CtI l y_A_compare ws_A_compare rm_A_compare 0 0 D vCl (tyX ca) nwX [.ref (a 26), .int x1, .int x2, .ref (a 18)] (wX g ca a σ ++ tl) (wX g ca a σ' ++ tl) r := by
  refine en_I (ws' := BIG) (by decide +kernel) rfl (Nat.le_of_ble_eq_true rfl) ?_
  intro p e s m below meth c A ls R args H locs hR hx hb hr hlk hml hown hB hK hN hP hD hA hS hl
  have hl : lv_has ls 7 [(0, .ref (a 26)), (1, .int x1), (2, .int x2), (3, .ref (a 18))] := hl
  unfold f_A_compare at h
  refine lv_iconst (v := (0 : Int32)) hx hb d_A_compare_0 (by decide) ?_
  have L3 : ∀ (n : Nat) (σ : St) (x1 : Int32) (x2 : Int32) (x4 : Int32) (H : Heap) (locs : List Loc) (ls : Array Slot), va_P D vCl (wX g ca a σ ++ tl) H → va_D A (wX g ca a σ ++ tl) → va_S A s.heap H locs → lv_has ls 7 [(0, .ref (a 26)), (1, .int x1), (2, .int x2), (3, .ref (a 18)), (4, .int x4)] → f_A_compare_3 N n σ x1 x2 x4 = some (r, σ') → W p l e R s m args below meth c H locs 0 0 (MQ below (qb_QI D vCl (tyX ca) (wX g ca a σ' ++ tl) A r) args s 0 0 A) (F0 m 3 ls []) := by
    intro n
    induction n with
    | zero => intro σ x1 x2 x4 H locs ls hP hD hS hl h; cases h
    | succ n ih3 =>
        intro σ x1 x2 x4 H locs ls hP hD hS hl h
        obtain ⟨K3, eK3⟩ : ∃ K, K = f_A_compare_3 N n := ⟨_, rfl⟩
        rw [← eK3] at ih3
        replace h : f_A_compare_3_b N K3 σ x1 x2 x4 = some (r, σ') := by rw [eK3]; exact h
        unfold f_A_compare_3_b at h
        refine lv_iload hx hb d_A_compare_3 (lv_at hl 4 rfl) ?_
        refine lv_aload_n hx hb d_A_compare_5 rfl (lv_at hl 3 rfl) ?_
        refine Xg_18_10 hx hb hB hown (hB _ m_233) hK hP d_A_compare_6 ?_
        refine lv_icmp_ge (tgt := 61) hx hb d_A_compare_9 (by decide) (fun hc => ?_) (fun hc => ?_)
        · replace h := it_t h hc
          refine lv_iconst (v := (0 : Int32)) hx hb d_A_compare_61 (by decide) ?_
          exact rf_I (w := (fun z => wX g ca a z ++ tl)) h hx hb hr hlk hK hP hD hS d_A_compare_62
        · replace h := it_f h hc
          refine lv_aload_n hx hb d_A_compare_12 rfl (lv_at hl 3 rfl) ?_
          refine Xg_18_11 hx hb hB hown (hB _ m_236) hK hP d_A_compare_13 ?_
          refine lv_iload hx hb d_A_compare_16 (lv_at hl 4 rfl) ?_
          obtain ⟨hi, h⟩ := ckb_some h
          refine Xa_24 hx hb hK hP hi d_A_compare_18 ?_
          refine lv_istore (lv' := [(5, .int (ga σ 18 (x4).toNatClampNeg)), (0, .ref (a 26)), (1, .int x1), (2, .int x2), (3, .ref (a 18)), (4, .int x4)]) hx hb d_A_compare_19 hl (by decide) rfl (fun ls hl => ?_)
          refine lv_aload_n hx hb d_A_compare_21 rfl (lv_at hl 1 rfl) ?_
          refine lv_iload_n hx hb d_A_compare_22 rfl (lv_at hl 2 rfl) ?_
          refine lv_iload_n hx hb d_A_compare_23 rfl (lv_at hl 3 rfl) ?_
          refine lv_iload hx hb d_A_compare_24 (lv_at hl 0 rfl) ?_
          obtain ⟨r1, s2, hr1, h⟩ := bd_some h
          refine go_VI (rest := []) ⟨hx, hb, hml, hown, hB⟩ nwX_ok (c_A_compareItem l D ca g a tl N σ s2 x1 x2 (ga σ 18 (x4).toNatClampNeg) r1 hr1) (cwx_V hB m_810 kw_A_compareItem ⟨by rw [hR]; decide, by rw [hR]; decide⟩ rfl rfl) (va_recv hK hP (ci := 2) (q0 := 26) rfl rfl) hN hK hP hD hS hA rfl hl.1 rfl (Nat.le_of_ble_eq_true rfl) d_A_compare_26 ⟨by rw [hR]; exact Nat.le_of_ble_eq_true rfl, by rw [hR]; exact Nat.le_of_ble_eq_true rfl⟩ (fun H locs hP hD hS => ?_)
          refine lv_istore (lv' := [(6, .int r1), (5, .int (ga σ 18 (x4).toNatClampNeg)), (0, .ref (a 26)), (1, .int x1), (2, .int x2), (3, .ref (a 18)), (4, .int x4)]) hx hb d_A_compare_29 hl (by decide) rfl (fun ls hl => ?_)
          refine lv_iload hx hb d_A_compare_31 (lv_at hl 0 rfl) ?_
          refine lv_if_eq (tgt := 55) hx hb d_A_compare_33 (by decide) (fun hc => ?_) (fun hc => ?_)
          · replace h := it_t h hc
            refine lv_iinc (v := (x4 + 1)) (lv' := [(4, .int (x4 + 1)), (6, .int r1), (5, .int (ga σ 18 (x4).toNatClampNeg)), (0, .ref (a 26)), (1, .int x1), (2, .int x2), (3, .ref (a 18))]) hx hb d_A_compare_55 hl (k := 6) rfl rfl (by decide) rfl (fun ls hl => ?_)
            refine lv_goto (tgt := 3) hx hb d_A_compare_58 (by decide) ?_
            exact ih3 s2 x1 x2 (x4 + 1) H locs ls hP hD hS (lv_sub hl [3, 4, 5, 6, 0] rfl) h
          · replace h := it_f h hc
            refine lv_aload_n hx hb d_A_compare_36 rfl (lv_at hl 5 rfl) ?_
            refine Xg_18_12 hx hb hB hown (hB _ m_238) hK hP d_A_compare_37 ?_
            refine lv_iload hx hb d_A_compare_40 (lv_at hl 6 rfl) ?_
            obtain ⟨hi, h⟩ := ckb_some h
            refine Xa_25 hx hb hK hP hi d_A_compare_42 ?_
            refine lv_if_eq (tgt := 52) hx hb d_A_compare_43 (by decide) (fun hc => ?_) (fun hc => ?_)
            · replace h := it_t h hc
              refine lv_iload hx hb d_A_compare_52 (lv_at hl 0 rfl) ?_
              exact rf_I (w := (fun z => wX g ca a z ++ tl)) h hx hb hr hlk hK hP hD hS d_A_compare_54
            · replace h := it_f h hc
              refine lv_iload hx hb d_A_compare_46 (lv_at hl 0 rfl) ?_
              refine lv_ineg hx hb d_A_compare_48 ?_
              refine lv_goto (tgt := 54) hx hb d_A_compare_49 (by decide) ?_
              exact rf_I (w := (fun z => wX g ca a z ++ tl)) h hx hb hr hlk hK hP hD hS d_A_compare_54
  refine lv_istore (lv' := [(4, .int (0 : Int32)), (0, .ref (a 26)), (1, .int x1), (2, .int x2), (3, .ref (a 18))]) hx hb d_A_compare_1 hl (by decide) rfl (fun ls hl => ?_)
  exact L3 N σ x1 x2 (0 : Int32) H locs ls hP hD hS (lv_sub hl [1, 2, 3, 4, 0] rfl) h
set_option maxRecDepth 100000 in
set_option maxHeartbeats 4000000 in
theorem c_A_insertInOrder (l : Launch) (D : va_G) (ca : Nat → ClassId) (g : Bool) (a : Nat → Nat) (tl : va_W) (N : Nat) (σ σ' : St) (x1 : Int32) (x2 : Int32) (h : f_A_insertInOrder N σ x1 x2 = some ((), σ')) : CtV l y_A_insertInOrder ws_A_insertInOrder rm_A_insertInOrder 0 0 D vCl (tyX ca) nwX [.ref (a 26), .int x1, .int x2, .ref (a 18)] (wX g ca a σ ++ tl) (wX g ca a σ' ++ tl) := by
  refine en_V (ws' := BIG) (by decide +kernel) rfl (Nat.le_of_ble_eq_true rfl) ?_
  intro p e s m below meth c A ls R args H locs hR hx hb hr hlk hml hown hB hK hN hP hD hA hS hl
  have hl : lv_has ls 5 [(0, .ref (a 26)), (1, .int x1), (2, .int x2), (3, .ref (a 18))] := hl
  unfold f_A_insertInOrder at h
  refine lv_iload_n hx hb d_A_insertInOrder_0 rfl (lv_at hl 2 rfl) ?_
  have L3 : ∀ (n : Nat) (σ : St) (x1 : Int32) (x4 : Int32) (H : Heap) (locs : List Loc) (ls : Array Slot), va_P D vCl (wX g ca a σ ++ tl) H → va_D A (wX g ca a σ ++ tl) → va_S A s.heap H locs → lv_has ls 5 [(0, .ref (a 26)), (1, .int x1), (3, .ref (a 18)), (4, .int x4)] → f_A_insertInOrder_3 N n σ x1 x4 = some ((), σ') → W p l e R s m args below meth c H locs 0 0 (MQ below (qb_QV D vCl (tyX ca) (wX g ca a σ' ++ tl) A) args s 0 0 A) (F0 m 3 ls []) := by
    intro n
    induction n with
    | zero => intro σ x1 x4 H locs ls hP hD hS hl h; cases h
    | succ n ih3 =>
        intro σ x1 x4 H locs ls hP hD hS hl h
        obtain ⟨K3, eK3⟩ : ∃ K, K = f_A_insertInOrder_3 N n := ⟨_, rfl⟩
        rw [← eK3] at ih3
        replace h : f_A_insertInOrder_3_b N K3 σ x1 x4 = some ((), σ') := by rw [eK3]; exact h
        unfold f_A_insertInOrder_3_b at h
        refine lv_iload hx hb d_A_insertInOrder_3 (lv_at hl 3 rfl) ?_
        refine lv_if_le (tgt := 48) hx hb d_A_insertInOrder_5 (by decide) (fun hc => ?_) (fun hc => ?_)
        · replace h := it_t h hc
          refine lv_aload_n hx hb d_A_insertInOrder_48 rfl (lv_at hl 0 rfl) ?_
          refine Xg_26_6 hx hb hB hown (hB _ m_292) hK hP d_A_insertInOrder_49 ?_
          refine lv_iload hx hb d_A_insertInOrder_52 (lv_at hl 3 rfl) ?_
          refine lv_iload_n hx hb d_A_insertInOrder_54 rfl (lv_at hl 1 rfl) ?_
          obtain ⟨hi, h⟩ := ckb_some h
          obtain ⟨s1, es1, h⟩ := nm_some h
          refine Xs_29 es1 hx hb hK hP hD hS hi d_A_insertInOrder_55 (fun H locs hP hD hS => ?_)
          exact rf_V (w := (fun z => wX g ca a z ++ tl)) h hx hb hr hlk hK hP hD hS d_A_insertInOrder_56
        · replace h := it_f h hc
          refine lv_aload_n hx hb d_A_insertInOrder_8 rfl (lv_at hl 0 rfl) ?_
          refine lv_aload_n hx hb d_A_insertInOrder_9 rfl (lv_at hl 0 rfl) ?_
          refine Xg_26_6 hx hb hB hown (hB _ m_292) hK hP d_A_insertInOrder_10 ?_
          refine lv_iload hx hb d_A_insertInOrder_13 (lv_at hl 3 rfl) ?_
          refine lv_iconst (v := (1 : Int32)) hx hb d_A_insertInOrder_15 (by decide) ?_
          refine lv_isub hx hb d_A_insertInOrder_16 ?_
          obtain ⟨hi, h⟩ := ckb_some h
          refine Xa_29 hx hb hK hP hi d_A_insertInOrder_17 ?_
          refine lv_iload_n hx hb d_A_insertInOrder_18 rfl (lv_at hl 1 rfl) ?_
          refine lv_aload_n hx hb d_A_insertInOrder_19 rfl (lv_at hl 2 rfl) ?_
          obtain ⟨r2, s3, hr2, h⟩ := bd_some h
          refine go_VI (rest := []) ⟨hx, hb, hml, hown, hB⟩ nwX_ok (c_A_compare l D ca g a tl N σ s3 (ga σ 21 ((x4 - (1 : Int32))).toNatClampNeg) x1 r2 hr2) (cwx_V hB m_806 kw_A_compare ⟨by rw [hR]; decide, by rw [hR]; decide⟩ rfl rfl) (va_recv hK hP (ci := 2) (q0 := 26) rfl rfl) hN hK hP hD hS hA rfl hl.1 rfl (Nat.le_of_ble_eq_true rfl) d_A_insertInOrder_20 ⟨by rw [hR]; exact Nat.le_of_ble_eq_true rfl, by rw [hR]; exact Nat.le_of_ble_eq_true rfl⟩ (fun H locs hP hD hS => ?_)
          refine lv_if_le (tgt := 48) hx hb d_A_insertInOrder_23 (by decide) (fun hc => ?_) (fun hc => ?_)
          · replace h := it_t h hc
            refine lv_aload_n hx hb d_A_insertInOrder_48 rfl (lv_at hl 0 rfl) ?_
            refine Xg_26_6 hx hb hB hown (hB _ m_292) hK hP d_A_insertInOrder_49 ?_
            refine lv_iload hx hb d_A_insertInOrder_52 (lv_at hl 3 rfl) ?_
            refine lv_iload_n hx hb d_A_insertInOrder_54 rfl (lv_at hl 1 rfl) ?_
            obtain ⟨hi, h⟩ := ckb_some h
            obtain ⟨s4, es4, h⟩ := nm_some h
            refine Xs_29 es4 hx hb hK hP hD hS hi d_A_insertInOrder_55 (fun H locs hP hD hS => ?_)
            exact rf_V (w := (fun z => wX g ca a z ++ tl)) h hx hb hr hlk hK hP hD hS d_A_insertInOrder_56
          · replace h := it_f h hc
            refine lv_aload_n hx hb d_A_insertInOrder_26 rfl (lv_at hl 0 rfl) ?_
            refine Xg_26_6 hx hb hB hown (hB _ m_292) hK hP d_A_insertInOrder_27 ?_
            refine lv_iload hx hb d_A_insertInOrder_30 (lv_at hl 3 rfl) ?_
            refine lv_aload_n hx hb d_A_insertInOrder_32 rfl (lv_at hl 0 rfl) ?_
            refine Xg_26_6 hx hb hB hown (hB _ m_292) hK hP d_A_insertInOrder_33 ?_
            refine lv_iload hx hb d_A_insertInOrder_36 (lv_at hl 3 rfl) ?_
            refine lv_iconst (v := (1 : Int32)) hx hb d_A_insertInOrder_38 (by decide) ?_
            refine lv_isub hx hb d_A_insertInOrder_39 ?_
            obtain ⟨hi, h⟩ := ckb_some h
            refine Xa_29 hx hb hK hP hi d_A_insertInOrder_40 ?_
            obtain ⟨hi, h⟩ := ckb_some h
            obtain ⟨s5, es5, h⟩ := nm_some h
            refine Xs_29 es5 hx hb hK hP hD hS hi d_A_insertInOrder_41 (fun H locs hP hD hS => ?_)
            refine lv_iinc (v := (x4 + Int32.ofInt (-1))) (lv' := [(4, .int (x4 + Int32.ofInt (-1))), (0, .ref (a 26)), (1, .int x1), (3, .ref (a 18))]) hx hb d_A_insertInOrder_42 hl (k := 3) rfl rfl (by decide) rfl (fun ls hl => ?_)
            refine lv_goto (tgt := 3) hx hb d_A_insertInOrder_45 (by decide) ?_
            exact ih3 s5 x1 (x4 + Int32.ofInt (-1)) H locs ls hP hD hS (lv_sub hl [1, 2, 3, 0] rfl) h
  refine lv_istore (lv' := [(4, .int x2), (0, .ref (a 26)), (1, .int x1), (2, .int x2), (3, .ref (a 18))]) hx hb d_A_insertInOrder_1 hl (by decide) rfl (fun ls hl => ?_)
  exact L3 N σ x1 x2 H locs ls hP hD hS (lv_sub hl [1, 2, 4, 0] rfl) h
set_option maxRecDepth 100000 in
set_option maxHeartbeats 4000000 in
theorem c_A_isRepeated (l : Launch) (D : va_G) (ca : Nat → ClassId) (g : Bool) (a : Nat → Nat) (tl : va_W) (N : Nat) (σ σ' : St) (x1 : Int32) (r : Int32) (h : f_A_isRepeated N σ x1 = some (r, σ')) : CtI l y_A_isRepeated ws_A_isRepeated rm_A_isRepeated 0 0 D vCl (tyX ca) nwX [.ref (a 26), .int x1] (wX g ca a σ ++ tl) (wX g ca a σ' ++ tl) r := by
  refine en_Z (ws' := BIG) (by decide +kernel) rfl (Nat.le_of_ble_eq_true rfl) ?_
  intro p e s m below meth c A ls R args H locs hR hx hb hr hlk hml hown hB hK hN hP hD hA hS hl
  have hl : lv_has ls 5 [(0, .ref (a 26)), (1, .int x1)] := hl
  unfold f_A_isRepeated at h
  refine lv_iconst (v := (0 : Int32)) hx hb d_A_isRepeated_0 (by decide) ?_
  have L2 : ∀ (n : Nat) (σ : St) (x1 : Int32) (x2 : Int32) (H : Heap) (locs : List Loc) (ls : Array Slot), va_P D vCl (wX g ca a σ ++ tl) H → va_D A (wX g ca a σ ++ tl) → va_S A s.heap H locs → lv_has ls 5 [(0, .ref (a 26)), (1, .int x1), (2, .int x2)] → f_A_isRepeated_2 N n σ x1 x2 = some (r, σ') → W p l e R s m args below meth c H locs 0 0 (MQ below (qb_QI D vCl (tyX ca) (wX g ca a σ' ++ tl) A r) args s 0 0 A) (F0 m 2 ls []) := by
    intro n
    induction n with
    | zero => intro σ x1 x2 H locs ls hP hD hS hl h; cases h
    | succ n ih2 =>
        intro σ x1 x2 H locs ls hP hD hS hl h
        obtain ⟨K2, eK2⟩ : ∃ K, K = f_A_isRepeated_2 N n := ⟨_, rfl⟩
        rw [← eK2] at ih2
        replace h : f_A_isRepeated_2_b N K2 σ x1 x2 = some (r, σ') := by rw [eK2]; exact h
        unfold f_A_isRepeated_2_b at h
        refine lv_iload_n hx hb d_A_isRepeated_2 rfl (lv_at hl 2 rfl) ?_
        refine lv_iload_n hx hb d_A_isRepeated_3 rfl (lv_at hl 1 rfl) ?_
        refine lv_icmp_ge (tgt := 96) hx hb d_A_isRepeated_4 (by decide) (fun hc => ?_) (fun hc => ?_)
        · replace h := it_t h hc
          refine lv_iconst (v := (0 : Int32)) hx hb d_A_isRepeated_96 (by decide) ?_
          exact rf_Z (w := (fun z => wX g ca a z ++ tl)) h hx hb hr hlk hK hP hD hS rfl d_A_isRepeated_97
        · replace h := it_f h hc
          refine lv_aload_n hx hb d_A_isRepeated_7 rfl (lv_at hl 0 rfl) ?_
          refine Xg_26_5 hx hb hB hown (hB _ m_291) hK hP d_A_isRepeated_8 ?_
          refine lv_iload_n hx hb d_A_isRepeated_11 rfl (lv_at hl 2 rfl) ?_
          obtain ⟨hi, h⟩ := ckb_some h
          refine Xa_28 hx hb hK hP hi d_A_isRepeated_12 ?_
          refine lv_aload_n hx hb d_A_isRepeated_13 rfl (lv_at hl 0 rfl) ?_
          refine Xg_26_5 hx hb hB hown (hB _ m_291) hK hP d_A_isRepeated_14 ?_
          refine lv_iload_n hx hb d_A_isRepeated_17 rfl (lv_at hl 1 rfl) ?_
          obtain ⟨hi, h⟩ := ckb_some h
          refine Xa_28 hx hb hK hP hi d_A_isRepeated_18 ?_
          refine lv_icmp_ne (tgt := 26) hx hb d_A_isRepeated_19 (by decide) (fun hc => ?_) (fun hc => ?_)
          · replace h := it_f h hc
            refine lv_iconst (v := (0 : Int32)) hx hb d_A_isRepeated_26 (by decide) ?_
            refine lv_istore_n (lv' := [(3, .int (0 : Int32)), (0, .ref (a 26)), (1, .int x1), (2, .int x2)]) hx hb d_A_isRepeated_27 rfl hl (by decide) rfl (fun ls hl => ?_)
            refine lv_iconst (v := (0 : Int32)) hx hb d_A_isRepeated_28 (by decide) ?_
            have L31 : ∀ (n : Nat) (σ : St) (x1 : Int32) (x2 : Int32) (x3 : Int32) (x4 : Int32) (H : Heap) (locs : List Loc) (ls : Array Slot), va_P D vCl (wX g ca a σ ++ tl) H → va_D A (wX g ca a σ ++ tl) → va_S A s.heap H locs → lv_has ls 5 [(0, .ref (a 26)), (1, .int x1), (2, .int x2), (3, .int x3), (4, .int x4)] → f_A_isRepeated_31 N K2 n σ x1 x2 x3 x4 = some (r, σ') → W p l e R s m args below meth c H locs 0 0 (MQ below (qb_QI D vCl (tyX ca) (wX g ca a σ' ++ tl) A r) args s 0 0 A) (F0 m 31 ls []) := by
              intro n
              induction n with
              | zero => intro σ x1 x2 x3 x4 H locs ls hP hD hS hl h; cases h
              | succ n ih31 =>
                  intro σ x1 x2 x3 x4 H locs ls hP hD hS hl h
                  obtain ⟨K31, eK31⟩ : ∃ K, K = f_A_isRepeated_31 N K2 n := ⟨_, rfl⟩
                  rw [← eK31] at ih31
                  replace h : f_A_isRepeated_31_b N K2 K31 σ x1 x2 x3 x4 = some (r, σ') := by rw [eK31]; exact h
                  unfold f_A_isRepeated_31_b at h
                  refine lv_iload_n hx hb d_A_isRepeated_31 rfl (lv_at hl 3 rfl) ?_
                  have L84 : ∀ (σ : St) (x1 : Int32) (x2 : Int32) (x3 : Int32) (H : Heap) (locs : List Loc) (ls : Array Slot), va_P D vCl (wX g ca a σ ++ tl) H → va_D A (wX g ca a σ ++ tl) → va_S A s.heap H locs → lv_has ls 5 [(0, .ref (a 26)), (1, .int x1), (2, .int x2), (3, .int x3)] → f_A_isRepeated_84 N K2 σ x1 x2 x3 = some (r, σ') → W p l e R s m args below meth c H locs 0 0 (MQ below (qb_QI D vCl (tyX ca) (wX g ca a σ' ++ tl) A r) args s 0 0 A) (F0 m 84 ls []) := by
                    intro σ x1 x2 x3 H locs ls hP hD hS hl h
                    unfold f_A_isRepeated_84 at h
                    refine lv_iload_n hx hb d_A_isRepeated_84 rfl (lv_at hl 3 rfl) ?_
                    refine lv_if_eq (tgt := 90) hx hb d_A_isRepeated_85 (by decide) (fun hc => ?_) (fun hc => ?_)
                    · replace h := it_t h hc
                      refine lv_iinc (v := (x2 + 1)) (lv' := [(2, .int (x2 + 1)), (0, .ref (a 26)), (1, .int x1), (3, .int x3)]) hx hb d_A_isRepeated_90 hl (k := 2) rfl rfl (by decide) rfl (fun ls hl => ?_)
                      refine lv_goto (tgt := 2) hx hb d_A_isRepeated_93 (by decide) ?_
                      exact ih2 σ x1 (x2 + 1) H locs ls hP hD hS (lv_sub hl [1, 2, 0] rfl) h
                    · replace h := it_f h hc
                      refine lv_iconst (v := (1 : Int32)) hx hb d_A_isRepeated_88 (by decide) ?_
                      exact rf_Z (w := (fun z => wX g ca a z ++ tl)) h hx hb hr hlk hK hP hD hS rfl d_A_isRepeated_89
                  refine lv_if_eq (tgt := 84) hx hb d_A_isRepeated_32 (by decide) (fun hc => ?_) (fun hc => ?_)
                  · replace h := it_t h hc
                    exact L84 σ x1 x2 x3 H locs ls hP hD hS (lv_sub hl [0, 1, 2, 3] rfl) h
                  · replace h := it_f h hc
                    refine lv_iload hx hb d_A_isRepeated_35 (lv_at hl 4 rfl) ?_
                    refine lv_aload_n hx hb d_A_isRepeated_37 rfl (lv_at hl 0 rfl) ?_
                    refine Xg_26_0 hx hb hB hown (hB _ m_284) hK hP d_A_isRepeated_38 ?_
                    refine lv_icmp_ge (tgt := 84) hx hb d_A_isRepeated_41 (by decide) (fun hc => ?_) (fun hc => ?_)
                    · replace h := it_t h hc
                      exact L84 σ x1 x2 x3 H locs ls hP hD hS (lv_sub hl [0, 1, 2, 3] rfl) h
                    · replace h := it_f h hc
                      refine lv_aload_n hx hb d_A_isRepeated_44 rfl (lv_at hl 0 rfl) ?_
                      refine Xg_26_4 hx hb hB hown (hB _ m_290) hK hP d_A_isRepeated_45 ?_
                      refine lv_iload_n hx hb d_A_isRepeated_48 rfl (lv_at hl 2 rfl) ?_
                      refine lv_bipush (v := (6 : Int32)) hx hb d_A_isRepeated_49 (by decide) ?_
                      refine lv_imul hx hb d_A_isRepeated_51 ?_
                      refine lv_iload hx hb d_A_isRepeated_52 (lv_at hl 4 rfl) ?_
                      refine lv_iadd hx hb d_A_isRepeated_54 ?_
                      obtain ⟨hi, h⟩ := ckb_some h
                      refine Xa_27 hx hb hK hP hi d_A_isRepeated_55 ?_
                      refine lv_aload_n hx hb d_A_isRepeated_56 rfl (lv_at hl 0 rfl) ?_
                      refine Xg_26_4 hx hb hB hown (hB _ m_290) hK hP d_A_isRepeated_57 ?_
                      refine lv_iload_n hx hb d_A_isRepeated_60 rfl (lv_at hl 1 rfl) ?_
                      refine lv_bipush (v := (6 : Int32)) hx hb d_A_isRepeated_61 (by decide) ?_
                      refine lv_imul hx hb d_A_isRepeated_63 ?_
                      refine lv_iload hx hb d_A_isRepeated_64 (lv_at hl 4 rfl) ?_
                      refine lv_iadd hx hb d_A_isRepeated_66 ?_
                      obtain ⟨hi, h⟩ := ckb_some h
                      refine Xa_27 hx hb hK hP hi d_A_isRepeated_67 ?_
                      refine W.lcmp hx hb d_A_isRepeated_68 ?_
                      refine lv_if_ne (tgt := 76) hx hb d_A_isRepeated_69 (by decide) (fun hc => ?_) (fun hc => ?_)
                      · replace h := it_f h hc
                        refine lv_iconst (v := (0 : Int32)) hx hb d_A_isRepeated_76 (by decide) ?_
                        refine lv_istore_n (lv' := [(3, .int (0 : Int32)), (0, .ref (a 26)), (1, .int x1), (2, .int x2), (4, .int x4)]) hx hb d_A_isRepeated_77 rfl hl (by decide) rfl (fun ls hl => ?_)
                        refine lv_iinc (v := (x4 + 1)) (lv' := [(4, .int (x4 + 1)), (3, .int (0 : Int32)), (0, .ref (a 26)), (1, .int x1), (2, .int x2)]) hx hb d_A_isRepeated_78 hl (k := 4) rfl rfl (by decide) rfl (fun ls hl => ?_)
                        refine lv_goto (tgt := 31) hx hb d_A_isRepeated_81 (by decide) ?_
                        exact ih31 σ x1 x2 (0 : Int32) (x4 + 1) H locs ls hP hD hS (lv_sub hl [2, 3, 4, 1, 0] rfl) h
                      · replace h := it_t h hc
                        refine lv_iconst (v := (1 : Int32)) hx hb d_A_isRepeated_72 (by decide) ?_
                        refine lv_goto (tgt := 77) hx hb d_A_isRepeated_73 (by decide) ?_
                        refine lv_istore_n (lv' := [(3, .int (1 : Int32)), (0, .ref (a 26)), (1, .int x1), (2, .int x2), (4, .int x4)]) hx hb d_A_isRepeated_77 rfl hl (by decide) rfl (fun ls hl => ?_)
                        refine lv_iinc (v := (x4 + 1)) (lv' := [(4, .int (x4 + 1)), (3, .int (1 : Int32)), (0, .ref (a 26)), (1, .int x1), (2, .int x2)]) hx hb d_A_isRepeated_78 hl (k := 4) rfl rfl (by decide) rfl (fun ls hl => ?_)
                        refine lv_goto (tgt := 31) hx hb d_A_isRepeated_81 (by decide) ?_
                        exact ih31 σ x1 x2 (1 : Int32) (x4 + 1) H locs ls hP hD hS (lv_sub hl [2, 3, 4, 1, 0] rfl) h
            refine lv_istore (lv' := [(4, .int (0 : Int32)), (3, .int (0 : Int32)), (0, .ref (a 26)), (1, .int x1), (2, .int x2)]) hx hb d_A_isRepeated_29 hl (by decide) rfl (fun ls hl => ?_)
            exact L31 N σ x1 x2 (0 : Int32) (0 : Int32) H locs ls hP hD hS (lv_sub hl [2, 3, 4, 1, 0] rfl) h
          · replace h := it_t h hc
            refine lv_iconst (v := (1 : Int32)) hx hb d_A_isRepeated_22 (by decide) ?_
            refine lv_goto (tgt := 27) hx hb d_A_isRepeated_23 (by decide) ?_
            refine lv_istore_n (lv' := [(3, .int (1 : Int32)), (0, .ref (a 26)), (1, .int x1), (2, .int x2)]) hx hb d_A_isRepeated_27 rfl hl (by decide) rfl (fun ls hl => ?_)
            refine lv_iconst (v := (0 : Int32)) hx hb d_A_isRepeated_28 (by decide) ?_
            have L31 : ∀ (n : Nat) (σ : St) (x1 : Int32) (x2 : Int32) (x3 : Int32) (x4 : Int32) (H : Heap) (locs : List Loc) (ls : Array Slot), va_P D vCl (wX g ca a σ ++ tl) H → va_D A (wX g ca a σ ++ tl) → va_S A s.heap H locs → lv_has ls 5 [(0, .ref (a 26)), (1, .int x1), (2, .int x2), (3, .int x3), (4, .int x4)] → f_A_isRepeated_31 N K2 n σ x1 x2 x3 x4 = some (r, σ') → W p l e R s m args below meth c H locs 0 0 (MQ below (qb_QI D vCl (tyX ca) (wX g ca a σ' ++ tl) A r) args s 0 0 A) (F0 m 31 ls []) := by
              intro n
              induction n with
              | zero => intro σ x1 x2 x3 x4 H locs ls hP hD hS hl h; cases h
              | succ n ih31 =>
                  intro σ x1 x2 x3 x4 H locs ls hP hD hS hl h
                  obtain ⟨K31, eK31⟩ : ∃ K, K = f_A_isRepeated_31 N K2 n := ⟨_, rfl⟩
                  rw [← eK31] at ih31
                  replace h : f_A_isRepeated_31_b N K2 K31 σ x1 x2 x3 x4 = some (r, σ') := by rw [eK31]; exact h
                  unfold f_A_isRepeated_31_b at h
                  refine lv_iload_n hx hb d_A_isRepeated_31 rfl (lv_at hl 3 rfl) ?_
                  have L84 : ∀ (σ : St) (x1 : Int32) (x2 : Int32) (x3 : Int32) (H : Heap) (locs : List Loc) (ls : Array Slot), va_P D vCl (wX g ca a σ ++ tl) H → va_D A (wX g ca a σ ++ tl) → va_S A s.heap H locs → lv_has ls 5 [(0, .ref (a 26)), (1, .int x1), (2, .int x2), (3, .int x3)] → f_A_isRepeated_84 N K2 σ x1 x2 x3 = some (r, σ') → W p l e R s m args below meth c H locs 0 0 (MQ below (qb_QI D vCl (tyX ca) (wX g ca a σ' ++ tl) A r) args s 0 0 A) (F0 m 84 ls []) := by
                    intro σ x1 x2 x3 H locs ls hP hD hS hl h
                    unfold f_A_isRepeated_84 at h
                    refine lv_iload_n hx hb d_A_isRepeated_84 rfl (lv_at hl 3 rfl) ?_
                    refine lv_if_eq (tgt := 90) hx hb d_A_isRepeated_85 (by decide) (fun hc => ?_) (fun hc => ?_)
                    · replace h := it_t h hc
                      refine lv_iinc (v := (x2 + 1)) (lv' := [(2, .int (x2 + 1)), (0, .ref (a 26)), (1, .int x1), (3, .int x3)]) hx hb d_A_isRepeated_90 hl (k := 2) rfl rfl (by decide) rfl (fun ls hl => ?_)
                      refine lv_goto (tgt := 2) hx hb d_A_isRepeated_93 (by decide) ?_
                      exact ih2 σ x1 (x2 + 1) H locs ls hP hD hS (lv_sub hl [1, 2, 0] rfl) h
                    · replace h := it_f h hc
                      refine lv_iconst (v := (1 : Int32)) hx hb d_A_isRepeated_88 (by decide) ?_
                      exact rf_Z (w := (fun z => wX g ca a z ++ tl)) h hx hb hr hlk hK hP hD hS rfl d_A_isRepeated_89
                  refine lv_if_eq (tgt := 84) hx hb d_A_isRepeated_32 (by decide) (fun hc => ?_) (fun hc => ?_)
                  · replace h := it_t h hc
                    exact L84 σ x1 x2 x3 H locs ls hP hD hS (lv_sub hl [0, 1, 2, 3] rfl) h
                  · replace h := it_f h hc
                    refine lv_iload hx hb d_A_isRepeated_35 (lv_at hl 4 rfl) ?_
                    refine lv_aload_n hx hb d_A_isRepeated_37 rfl (lv_at hl 0 rfl) ?_
                    refine Xg_26_0 hx hb hB hown (hB _ m_284) hK hP d_A_isRepeated_38 ?_
                    refine lv_icmp_ge (tgt := 84) hx hb d_A_isRepeated_41 (by decide) (fun hc => ?_) (fun hc => ?_)
                    · replace h := it_t h hc
                      exact L84 σ x1 x2 x3 H locs ls hP hD hS (lv_sub hl [0, 1, 2, 3] rfl) h
                    · replace h := it_f h hc
                      refine lv_aload_n hx hb d_A_isRepeated_44 rfl (lv_at hl 0 rfl) ?_
                      refine Xg_26_4 hx hb hB hown (hB _ m_290) hK hP d_A_isRepeated_45 ?_
                      refine lv_iload_n hx hb d_A_isRepeated_48 rfl (lv_at hl 2 rfl) ?_
                      refine lv_bipush (v := (6 : Int32)) hx hb d_A_isRepeated_49 (by decide) ?_
                      refine lv_imul hx hb d_A_isRepeated_51 ?_
                      refine lv_iload hx hb d_A_isRepeated_52 (lv_at hl 4 rfl) ?_
                      refine lv_iadd hx hb d_A_isRepeated_54 ?_
                      obtain ⟨hi, h⟩ := ckb_some h
                      refine Xa_27 hx hb hK hP hi d_A_isRepeated_55 ?_
                      refine lv_aload_n hx hb d_A_isRepeated_56 rfl (lv_at hl 0 rfl) ?_
                      refine Xg_26_4 hx hb hB hown (hB _ m_290) hK hP d_A_isRepeated_57 ?_
                      refine lv_iload_n hx hb d_A_isRepeated_60 rfl (lv_at hl 1 rfl) ?_
                      refine lv_bipush (v := (6 : Int32)) hx hb d_A_isRepeated_61 (by decide) ?_
                      refine lv_imul hx hb d_A_isRepeated_63 ?_
                      refine lv_iload hx hb d_A_isRepeated_64 (lv_at hl 4 rfl) ?_
                      refine lv_iadd hx hb d_A_isRepeated_66 ?_
                      obtain ⟨hi, h⟩ := ckb_some h
                      refine Xa_27 hx hb hK hP hi d_A_isRepeated_67 ?_
                      refine W.lcmp hx hb d_A_isRepeated_68 ?_
                      refine lv_if_ne (tgt := 76) hx hb d_A_isRepeated_69 (by decide) (fun hc => ?_) (fun hc => ?_)
                      · replace h := it_f h hc
                        refine lv_iconst (v := (0 : Int32)) hx hb d_A_isRepeated_76 (by decide) ?_
                        refine lv_istore_n (lv' := [(3, .int (0 : Int32)), (0, .ref (a 26)), (1, .int x1), (2, .int x2), (4, .int x4)]) hx hb d_A_isRepeated_77 rfl hl (by decide) rfl (fun ls hl => ?_)
                        refine lv_iinc (v := (x4 + 1)) (lv' := [(4, .int (x4 + 1)), (3, .int (0 : Int32)), (0, .ref (a 26)), (1, .int x1), (2, .int x2)]) hx hb d_A_isRepeated_78 hl (k := 4) rfl rfl (by decide) rfl (fun ls hl => ?_)
                        refine lv_goto (tgt := 31) hx hb d_A_isRepeated_81 (by decide) ?_
                        exact ih31 σ x1 x2 (0 : Int32) (x4 + 1) H locs ls hP hD hS (lv_sub hl [2, 3, 4, 1, 0] rfl) h
                      · replace h := it_t h hc
                        refine lv_iconst (v := (1 : Int32)) hx hb d_A_isRepeated_72 (by decide) ?_
                        refine lv_goto (tgt := 77) hx hb d_A_isRepeated_73 (by decide) ?_
                        refine lv_istore_n (lv' := [(3, .int (1 : Int32)), (0, .ref (a 26)), (1, .int x1), (2, .int x2), (4, .int x4)]) hx hb d_A_isRepeated_77 rfl hl (by decide) rfl (fun ls hl => ?_)
                        refine lv_iinc (v := (x4 + 1)) (lv' := [(4, .int (x4 + 1)), (3, .int (1 : Int32)), (0, .ref (a 26)), (1, .int x1), (2, .int x2)]) hx hb d_A_isRepeated_78 hl (k := 4) rfl rfl (by decide) rfl (fun ls hl => ?_)
                        refine lv_goto (tgt := 31) hx hb d_A_isRepeated_81 (by decide) ?_
                        exact ih31 σ x1 x2 (1 : Int32) (x4 + 1) H locs ls hP hD hS (lv_sub hl [2, 3, 4, 1, 0] rfl) h
            refine lv_istore (lv' := [(4, .int (0 : Int32)), (3, .int (1 : Int32)), (0, .ref (a 26)), (1, .int x1), (2, .int x2)]) hx hb d_A_isRepeated_29 hl (by decide) rfl (fun ls hl => ?_)
            exact L31 N σ x1 x2 (1 : Int32) (0 : Int32) H locs ls hP hD hS (lv_sub hl [2, 3, 4, 1, 0] rfl) h
  refine lv_istore_n (lv' := [(2, .int (0 : Int32)), (0, .ref (a 26)), (1, .int x1)]) hx hb d_A_isRepeated_1 rfl hl (by decide) rfl (fun ls hl => ?_)
  exact L2 N σ x1 (0 : Int32) H locs ls hP hD hS (lv_sub hl [1, 2, 0] rfl) h
set_option maxRecDepth 100000 in
set_option maxHeartbeats 4000000 in
theorem c_A_finish (l : Launch) (D : va_G) (ca : Nat → ClassId) (g : Bool) (a : Nat → Nat) (tl : va_W) (N : Nat) (σ σ' : St) (h : f_A_finish N σ = some ((), σ')) : CtV l y_A_finish ws_A_finish rm_A_finish 0 0 D vCl (tyX ca) nwX [.ref (a 26), .ref (a 18)] (wX g ca a σ ++ tl) (wX g ca a σ' ++ tl) := by
  refine en_V (ws' := BIG) (by decide +kernel) rfl (Nat.le_of_ble_eq_true rfl) ?_
  intro p e s m below meth c A ls R args H locs hR hx hb hr hlk hml hown hB hK hN hP hD hA hS hl
  have hl : lv_has ls 4 [(0, .ref (a 26)), (1, .ref (a 18))] := hl
  unfold f_A_finish at h
  refine lv_aload_n hx hb d_A_finish_0 rfl (lv_at hl 0 rfl) ?_
  refine lv_aload_n hx hb d_A_finish_1 rfl (lv_at hl 1 rfl) ?_
  refine Xg_18_8 hx hb hB hown (hB _ m_227) hK hP d_A_finish_2 ?_
  obtain ⟨s1, es1, h⟩ := nm_some h
  refine Xp_26_0 es1 hx hb hB hown (hB _ m_284) hK hP hD hS d_A_finish_5 (fun H locs hP hD hS => ?_)
  refine lv_iconst (v := (0 : Int32)) hx hb d_A_finish_8 (by decide) ?_
  refine lv_istore_n (lv' := [(2, .int (0 : Int32)), (0, .ref (a 26)), (1, .ref (a 18))]) hx hb d_A_finish_9 rfl hl (by decide) rfl (fun ls hl => ?_)
  refine lv_iconst (v := (0 : Int32)) hx hb d_A_finish_10 (by decide) ?_
  have L12 : ∀ (n : Nat) (σ : St) (x2 : Int32) (x3 : Int32) (H : Heap) (locs : List Loc) (ls : Array Slot), va_P D vCl (wX g ca a σ ++ tl) H → va_D A (wX g ca a σ ++ tl) → va_S A s.heap H locs → lv_has ls 4 [(0, .ref (a 26)), (1, .ref (a 18)), (2, .int x2), (3, .int x3)] → f_A_finish_12 N n σ x2 x3 = some ((), σ') → W p l e R s m args below meth c H locs 0 0 (MQ below (qb_QV D vCl (tyX ca) (wX g ca a σ' ++ tl) A) args s 0 0 A) (F0 m 12 ls []) := by
    intro n
    induction n with
    | zero => intro σ x2 x3 H locs ls hP hD hS hl h; cases h
    | succ n ih12 =>
        intro σ x2 x3 H locs ls hP hD hS hl h
        obtain ⟨K12, eK12⟩ : ∃ K, K = f_A_finish_12 N n := ⟨_, rfl⟩
        rw [← eK12] at ih12
        replace h : f_A_finish_12_b N K12 σ x2 x3 = some ((), σ') := by rw [eK12]; exact h
        unfold f_A_finish_12_b at h
        refine lv_iload_n hx hb d_A_finish_12 rfl (lv_at hl 3 rfl) ?_
        refine lv_aload_n hx hb d_A_finish_13 rfl (lv_at hl 0 rfl) ?_
        refine Xg_26_2 hx hb hB hown (hB _ m_288) hK hP d_A_finish_14 ?_
        refine lv_icmp_ge (tgt := 51) hx hb d_A_finish_17 (by decide) (fun hc => ?_) (fun hc => ?_)
        · replace h := it_t h hc
          refine lv_aload_n hx hb d_A_finish_51 rfl (lv_at hl 0 rfl) ?_
          refine lv_aload_n hx hb d_A_finish_52 rfl (lv_at hl 1 rfl) ?_
          refine Xg_18_15 hx hb hB hown (hB _ m_244) hK hP d_A_finish_53 ?_
          refine lv_iload_n hx hb d_A_finish_56 rfl (lv_at hl 2 rfl) ?_
          refine va_mmin hx hb (hml.trans hl.1.symm) hown (hB _ m_821) (hB _ m_422) (hB _ m_82) (hB _ m_423) (by rw [hR]; exact Nat.le_of_ble_eq_true rfl) (by rw [hR]; exact Nat.le_of_ble_eq_true rfl) (by rw [hR]; exact Nat.le_of_ble_eq_true rfl) (by rw [hR]; exact Nat.le_of_ble_eq_true rfl) d_A_finish_57 ?_
          obtain ⟨s2, es2, h⟩ := nm_some h
          refine Xp_26_3 es2 hx hb hB hown (hB _ m_289) hK hP hD hS d_A_finish_60 (fun H locs hP hD hS => ?_)
          refine lv_aload_n hx hb d_A_finish_63 rfl (lv_at hl 0 rfl) ?_
          refine lv_aload_n hx hb d_A_finish_64 rfl (lv_at hl 1 rfl) ?_
          refine Xg_18_14 hx hb hB hown (hB _ m_242) hK hP d_A_finish_65 ?_
          refine lv_iload_n hx hb d_A_finish_68 rfl (lv_at hl 2 rfl) ?_
          refine lv_aload_n hx hb d_A_finish_69 rfl (lv_at hl 0 rfl) ?_
          refine Xg_26_3 hx hb hB hown (hB _ m_289) hK hP d_A_finish_70 ?_
          refine lv_isub hx hb d_A_finish_73 ?_
          refine va_mmin hx hb (hml.trans hl.1.symm) hown (hB _ m_821) (hB _ m_422) (hB _ m_82) (hB _ m_423) (by rw [hR]; exact Nat.le_of_ble_eq_true rfl) (by rw [hR]; exact Nat.le_of_ble_eq_true rfl) (by rw [hR]; exact Nat.le_of_ble_eq_true rfl) (by rw [hR]; exact Nat.le_of_ble_eq_true rfl) d_A_finish_74 ?_
          obtain ⟨s3, es3, h⟩ := nm_some h
          refine Xp_26_1 es3 hx hb hB hown (hB _ m_286) hK hP hD hS d_A_finish_77 (fun H locs hP hD hS => ?_)
          exact rf_V (w := (fun z => wX g ca a z ++ tl)) h hx hb hr hlk hK hP hD hS d_A_finish_80
        · replace h := it_f h hc
          refine lv_aload_n hx hb d_A_finish_20 rfl (lv_at hl 1 rfl) ?_
          refine Xg_18_13 hx hb hB hown (hB _ m_240) hK hP d_A_finish_21 ?_
          have L35 : ∀ (σ : St) (x2 : Int32) (x3 : Int32) (H : Heap) (locs : List Loc) (ls : Array Slot), va_P D vCl (wX g ca a σ ++ tl) H → va_D A (wX g ca a σ ++ tl) → va_S A s.heap H locs → lv_has ls 4 [(0, .ref (a 26)), (1, .ref (a 18)), (2, .int x2), (3, .int x3)] → f_A_finish_35 N K12 σ x2 x3 = some ((), σ') → W p l e R s m args below meth c H locs 0 0 (MQ below (qb_QV D vCl (tyX ca) (wX g ca a σ' ++ tl) A) args s 0 0 A) (F0 m 35 ls []) := by
            intro σ x2 x3 H locs ls hP hD hS hl h
            unfold f_A_finish_35 at h
            refine lv_aload_n hx hb d_A_finish_35 rfl (lv_at hl 0 rfl) ?_
            refine lv_iload_n hx hb d_A_finish_36 rfl (lv_at hl 3 rfl) ?_
            refine lv_iload_n hx hb d_A_finish_37 rfl (lv_at hl 2 rfl) ?_
            refine lv_aload_n hx hb d_A_finish_38 rfl (lv_at hl 1 rfl) ?_
            obtain ⟨r4, s5, hr4, h⟩ := bd_some h
            cases r4
            refine go_VV (rest := []) ⟨hx, hb, hml, hown, hB⟩ nwX_ok (c_A_insertInOrder l D ca g a tl N σ s5 x3 x2 hr4) (cwx_V hB m_802 kw_A_insertInOrder ⟨by rw [hR]; decide, by rw [hR]; decide⟩ rfl rfl) (va_recv hK hP (ci := 2) (q0 := 26) rfl rfl) hN hK hP hD hS hA rfl hl.1 rfl (Nat.le_of_ble_eq_true rfl) d_A_finish_39 ⟨by rw [hR]; exact Nat.le_of_ble_eq_true rfl, by rw [hR]; exact Nat.le_of_ble_eq_true rfl⟩ (fun H locs hP hD hS => ?_)
            refine lv_iinc (v := (x2 + 1)) (lv' := [(2, .int (x2 + 1)), (0, .ref (a 26)), (1, .ref (a 18)), (3, .int x3)]) hx hb d_A_finish_42 hl (k := 2) rfl rfl (by decide) rfl (fun ls hl => ?_)
            refine lv_iinc (v := (x3 + 1)) (lv' := [(3, .int (x3 + 1)), (2, .int (x2 + 1)), (0, .ref (a 26)), (1, .ref (a 18))]) hx hb d_A_finish_45 hl (k := 3) rfl rfl (by decide) rfl (fun ls hl => ?_)
            refine lv_goto (tgt := 12) hx hb d_A_finish_48 (by decide) ?_
            exact ih12 s5 (x2 + 1) (x3 + 1) H locs ls hP hD hS (lv_sub hl [2, 3, 1, 0] rfl) h
          refine lv_if_eq (tgt := 35) hx hb d_A_finish_24 (by decide) (fun hc => ?_) (fun hc => ?_)
          · replace h := it_t h hc
            exact L35 σ x2 x3 H locs ls hP hD hS (lv_sub hl [0, 1, 2, 3] rfl) h
          · replace h := it_f h hc
            refine lv_aload_n hx hb d_A_finish_27 rfl (lv_at hl 0 rfl) ?_
            refine lv_iload_n hx hb d_A_finish_28 rfl (lv_at hl 3 rfl) ?_
            obtain ⟨r6, s7, hr6, h⟩ := bd_some h
            refine go_VI (rest := []) ⟨hx, hb, hml, hown, hB⟩ nwX_ok (c_A_isRepeated l D ca g a tl N σ s7 x3 r6 hr6) (cwx_V hB m_798 kw_A_isRepeated ⟨by rw [hR]; decide, by rw [hR]; decide⟩ rfl rfl) (va_recv hK hP (ci := 2) (q0 := 26) rfl rfl) hN hK hP hD hS hA rfl hl.1 rfl (Nat.le_of_ble_eq_true rfl) d_A_finish_29 ⟨by rw [hR]; exact Nat.le_of_ble_eq_true rfl, by rw [hR]; exact Nat.le_of_ble_eq_true rfl⟩ (fun H locs hP hD hS => ?_)
            refine lv_if_ne (tgt := 45) hx hb d_A_finish_32 (by decide) (fun hc => ?_) (fun hc => ?_)
            · replace h := it_f h hc
              refine lv_iinc (v := (x3 + 1)) (lv' := [(3, .int (x3 + 1)), (0, .ref (a 26)), (1, .ref (a 18)), (2, .int x2)]) hx hb d_A_finish_45 hl (k := 3) rfl rfl (by decide) rfl (fun ls hl => ?_)
              refine lv_goto (tgt := 12) hx hb d_A_finish_48 (by decide) ?_
              exact ih12 s7 x2 (x3 + 1) H locs ls hP hD hS (lv_sub hl [1, 2, 3, 0] rfl) h
            · replace h := it_t h hc
              exact L35 s7 x2 x3 H locs ls hP hD hS (lv_sub hl [0, 1, 2, 3] rfl) h
  refine lv_istore_n (lv' := [(3, .int (0 : Int32)), (2, .int (0 : Int32)), (0, .ref (a 26)), (1, .ref (a 18))]) hx hb d_A_finish_11 rfl hl (by decide) rfl (fun ls hl => ?_)
  exact L12 N s1 (0 : Int32) (0 : Int32) H locs ls hP hD hS (lv_sub hl [2, 3, 1, 0] rfl) h
set_option maxRecDepth 100000 in
set_option maxHeartbeats 4000000 in
theorem c_G_clear (l : Launch) (D : va_G) (ca : Nat → ClassId) (a : Nat → Nat) (tl : va_W) (N : Nat) (σ σ' : St) (x1 : Int32) (h : f_G_clear N σ x1 = some ((), σ')) : CtV l y_G_clear ws_G_clear rm_G_clear 0 0 D vCl (tyX ca) nwX [.ref (a 35), .int x1] (wX true ca a σ ++ tl) (wX true ca a σ' ++ tl) := by
  refine en_V (ws' := BIG) (by decide +kernel) rfl (Nat.le_of_ble_eq_true rfl) ?_
  intro p e s m below meth c A ls R args H locs hR hx hb hr hlk hml hown hB hK hN hP hD hA hS hl
  have hl : lv_has ls 2 [(0, .ref (a 35)), (1, .int x1)] := hl
  unfold f_G_clear at h
  refine lv_aload_n hx hb d_G_clear_0 rfl (lv_at hl 0 rfl) ?_
  refine lv_iconst (v := (0 : Int32)) hx hb d_G_clear_1 (by decide) ?_
  obtain ⟨s1, es1, h⟩ := nm_some h
  refine Xp_35_2 es1 hx hb hB hown (hB _ m_619) hK hP hD hS d_G_clear_2 (fun H locs hP hD hS => ?_)
  refine lv_aload_n hx hb d_G_clear_5 rfl (lv_at hl 0 rfl) ?_
  refine lv_iconst (v := (0 : Int32)) hx hb d_G_clear_6 (by decide) ?_
  obtain ⟨s2, es2, h⟩ := nm_some h
  refine Xp_35_1 es2 hx hb hB hown (hB _ m_617) hK hP hD hS d_G_clear_7 (fun H locs hP hD hS => ?_)
  refine lv_iload_n hx hb d_G_clear_10 rfl (lv_at hl 1 rfl) ?_
  refine lv_if_eq (tgt := 19) hx hb d_G_clear_11 (by decide) (fun hc => ?_) (fun hc => ?_)
  · replace h := it_t h hc
    exact rf_V (w := (fun z => wX true ca a z ++ tl)) h hx hb hr hlk hK hP hD hS d_G_clear_19
  · replace h := it_f h hc
    refine lv_aload_n hx hb d_G_clear_14 rfl (lv_at hl 0 rfl) ?_
    refine lv_iconst (v := (0 : Int32)) hx hb d_G_clear_15 (by decide) ?_
    obtain ⟨r3, s4, hr3, h⟩ := bd_some h
    cases r3
    refine go_VV (rest := []) ⟨hx, hb, hml, hown, hB⟩ nwX_ok (c_G_openGroup l D ca a tl N s2 s4 (0 : Int32) hr3) (cwx_V hB m_668 kw_G_openGroup ⟨by rw [hR]; decide, by rw [hR]; decide⟩ rfl rfl) (va_recv hK hP (ci := 6) (q0 := 35) rfl rfl) hN hK hP hD hS hA rfl hl.1 rfl (Nat.le_of_ble_eq_true rfl) d_G_clear_16 ⟨by rw [hR]; exact Nat.le_of_ble_eq_true rfl, by rw [hR]; exact Nat.le_of_ble_eq_true rfl⟩ (fun H locs hP hD hS => ?_)
    exact rf_V (w := (fun z => wX true ca a z ++ tl)) h hx hb hr hlk hK hP hD hS d_G_clear_19
set_option maxRecDepth 100000 in
set_option maxHeartbeats 4000000 in
theorem c_A_has (l : Launch) (D : va_G) (ca : Nat → ClassId) (g : Bool) (a : Nat → Nat) (tl : va_W) (N : Nat) (σ σ' : St) (x1 : Int32) (x2 : Int32) (r : Int32) (h : f_A_has N σ x1 x2 = some (r, σ')) : CtI l y_A_has ws_A_has rm_A_has 0 0 D vCl (tyX ca) nwX [.ref (a 26), .int x1, .int x2] (wX g ca a σ ++ tl) (wX g ca a σ' ++ tl) r := by
  refine en_Z (ws' := BIG) (by decide +kernel) rfl (Nat.le_of_ble_eq_true rfl) ?_
  intro p e s m below meth c A ls R args H locs hR hx hb hr hlk hml hown hB hK hN hP hD hA hS hl
  have hl : lv_has ls 3 [(0, .ref (a 26)), (1, .int x1), (2, .int x2)] := hl
  unfold f_A_has at h
  refine lv_iload_n hx hb d_A_has_0 rfl (lv_at hl 1 rfl) ?_
  refine lv_if_lt (tgt := 28) hx hb d_A_has_1 (by decide) (fun hc => ?_) (fun hc => ?_)
  · replace h := it_t h hc
    refine lv_iconst (v := (0 : Int32)) hx hb d_A_has_28 (by decide) ?_
    exact rf_Z (w := (fun z => wX g ca a z ++ tl)) h hx hb hr hlk hK hP hD hS rfl d_A_has_29
  · replace h := it_f h hc
    refine lv_iload_n hx hb d_A_has_4 rfl (lv_at hl 1 rfl) ?_
    refine lv_aload_n hx hb d_A_has_5 rfl (lv_at hl 0 rfl) ?_
    refine Xg_26_1 hx hb hB hown (hB _ m_286) hK hP d_A_has_6 ?_
    refine lv_icmp_ge (tgt := 28) hx hb d_A_has_9 (by decide) (fun hc => ?_) (fun hc => ?_)
    · replace h := it_t h hc
      refine lv_iconst (v := (0 : Int32)) hx hb d_A_has_28 (by decide) ?_
      exact rf_Z (w := (fun z => wX g ca a z ++ tl)) h hx hb hr hlk hK hP hD hS rfl d_A_has_29
    · replace h := it_f h hc
      refine lv_iload_n hx hb d_A_has_12 rfl (lv_at hl 2 rfl) ?_
      refine lv_if_lt (tgt := 28) hx hb d_A_has_13 (by decide) (fun hc => ?_) (fun hc => ?_)
      · replace h := it_t h hc
        refine lv_iconst (v := (0 : Int32)) hx hb d_A_has_28 (by decide) ?_
        exact rf_Z (w := (fun z => wX g ca a z ++ tl)) h hx hb hr hlk hK hP hD hS rfl d_A_has_29
      · replace h := it_f h hc
        refine lv_iload_n hx hb d_A_has_16 rfl (lv_at hl 2 rfl) ?_
        refine lv_aload_n hx hb d_A_has_17 rfl (lv_at hl 0 rfl) ?_
        refine Xg_26_0 hx hb hB hown (hB _ m_284) hK hP d_A_has_18 ?_
        refine lv_icmp_ge (tgt := 28) hx hb d_A_has_21 (by decide) (fun hc => ?_) (fun hc => ?_)
        · replace h := it_t h hc
          refine lv_iconst (v := (0 : Int32)) hx hb d_A_has_28 (by decide) ?_
          exact rf_Z (w := (fun z => wX g ca a z ++ tl)) h hx hb hr hlk hK hP hD hS rfl d_A_has_29
        · replace h := it_f h hc
          refine lv_iconst (v := (1 : Int32)) hx hb d_A_has_24 (by decide) ?_
          refine lv_goto (tgt := 29) hx hb d_A_has_25 (by decide) ?_
          exact rf_Z (w := (fun z => wX g ca a z ++ tl)) h hx hb hr hlk hK hP hD hS rfl d_A_has_29
set_option maxRecDepth 100000 in
set_option maxHeartbeats 4000000 in
theorem c_A_numberOf (l : Launch) (D : va_G) (ca : Nat → ClassId) (g : Bool) (a : Nat → Nat) (tl : va_W) (N : Nat) (σ σ' : St) (x1 : Int32) (x2 : Int32) (r : Int64) (h : f_A_numberOf N σ x1 x2 = some (r, σ')) : CtL l y_A_numberOf ws_A_numberOf rm_A_numberOf 0 0 D vCl (tyX ca) nwX [.ref (a 26), .int x1, .int x2] (wX g ca a σ ++ tl) (wX g ca a σ' ++ tl) r := by
  refine en_L (ws' := BIG) (by decide +kernel) rfl (Nat.le_of_ble_eq_true rfl) ?_
  intro p e s m below meth c A ls R args H locs hR hx hb hr hlk hml hown hB hK hN hP hD hA hS hl
  have hl : lv_has ls 3 [(0, .ref (a 26)), (1, .int x1), (2, .int x2)] := hl
  unfold f_A_numberOf at h
  refine lv_aload_n hx hb d_A_numberOf_0 rfl (lv_at hl 0 rfl) ?_
  refine Xg_26_4 hx hb hB hown (hB _ m_290) hK hP d_A_numberOf_1 ?_
  refine lv_aload_n hx hb d_A_numberOf_4 rfl (lv_at hl 0 rfl) ?_
  refine Xg_26_6 hx hb hB hown (hB _ m_292) hK hP d_A_numberOf_5 ?_
  refine lv_aload_n hx hb d_A_numberOf_8 rfl (lv_at hl 0 rfl) ?_
  refine Xg_26_3 hx hb hB hown (hB _ m_289) hK hP d_A_numberOf_9 ?_
  refine lv_iload_n hx hb d_A_numberOf_12 rfl (lv_at hl 1 rfl) ?_
  refine lv_iadd hx hb d_A_numberOf_13 ?_
  obtain ⟨hi, h⟩ := ckb_some h
  refine Xa_29 hx hb hK hP hi d_A_numberOf_14 ?_
  refine lv_bipush (v := (6 : Int32)) hx hb d_A_numberOf_15 (by decide) ?_
  refine lv_imul hx hb d_A_numberOf_17 ?_
  refine lv_iload_n hx hb d_A_numberOf_18 rfl (lv_at hl 2 rfl) ?_
  refine lv_iadd hx hb d_A_numberOf_19 ?_
  obtain ⟨hi, h⟩ := ckb_some h
  refine Xa_27 hx hb hK hP hi d_A_numberOf_20 ?_
  exact rf_L (w := (fun z => wX g ca a z ++ tl)) h hx hb hr hlk hK hP hD hS d_A_numberOf_21
set_option maxRecDepth 100000 in
set_option maxHeartbeats 4000000 in
theorem c_Q_cell (l : Launch) (D : va_G) (ca : Nat → ClassId) (g : Bool) (a : Nat → Nat) (tl : va_W) (N : Nat) (σ σ' : St) (x1 : Int32) (x2 : Int32) (r : Int64) (h : f_Q_cell N σ x1 x2 = some (r, σ')) : CtL l y_Q_cell ws_Q_cell rm_Q_cell 0 0 D vCl (tyX ca) nwX [.ref (a 0), .int x1, .int x2] (wX g ca a σ ++ tl) (wX g ca a σ' ++ tl) r := by
  refine en_L (ws' := BIG) (by decide +kernel) rfl (Nat.le_of_ble_eq_true rfl) ?_
  intro p e s m below meth c A ls R args H locs hR hx hb hr hlk hml hown hB hK hN hP hD hA hS hl
  have hl : lv_has ls 3 [(0, .ref (a 0)), (1, .int x1), (2, .int x2)] := hl
  unfold f_Q_cell at h
  refine lv_aload_n hx hb d_Q_cell_0 rfl (lv_at hl 0 rfl) ?_
  refine Xg_0_3 hx hb hB hown (hB _ m_392) hK hP d_Q_cell_1 ?_
  refine lv_iload_n hx hb d_Q_cell_4 rfl (lv_at hl 1 rfl) ?_
  refine lv_iload_n hx hb d_Q_cell_5 rfl (lv_at hl 2 rfl) ?_
  obtain ⟨r1, s2, hr1, h⟩ := bd_some h
  refine go_VI (rest := []) ⟨hx, hb, hml, hown, hB⟩ nwX_ok (c_A_has l D ca g a tl N σ s2 x1 x2 r1 hr1) (cwx_V hB m_826 kw_A_has ⟨by rw [hR]; decide, by rw [hR]; decide⟩ rfl rfl) (va_recv hK hP (ci := 2) (q0 := 26) rfl rfl) hN hK hP hD hS hA rfl hl.1 rfl (Nat.le_of_ble_eq_true rfl) d_Q_cell_6 ⟨by rw [hR]; exact Nat.le_of_ble_eq_true rfl, by rw [hR]; exact Nat.le_of_ble_eq_true rfl⟩ (fun H locs hP hD hS => ?_)
  refine lv_if_eq (tgt := 24) hx hb d_Q_cell_9 (by decide) (fun hc => ?_) (fun hc => ?_)
  · replace h := it_t h hc
    refine lv_lconst (v := (0 : Int64)) hx hb d_Q_cell_24 (by decide) ?_
    exact rf_L (w := (fun z => wX g ca a z ++ tl)) h hx hb hr hlk hK hP hD hS d_Q_cell_25
  · replace h := it_f h hc
    refine lv_aload_n hx hb d_Q_cell_12 rfl (lv_at hl 0 rfl) ?_
    refine Xg_0_3 hx hb hB hown (hB _ m_392) hK hP d_Q_cell_13 ?_
    refine lv_iload_n hx hb d_Q_cell_16 rfl (lv_at hl 1 rfl) ?_
    refine lv_iload_n hx hb d_Q_cell_17 rfl (lv_at hl 2 rfl) ?_
    obtain ⟨r3, s4, hr3, h⟩ := bd_some h
    refine go_VL (rest := []) ⟨hx, hb, hml, hown, hB⟩ nwX_ok (c_A_numberOf l D ca g a tl N s2 s4 x1 x2 r3 hr3) (cwx_V hB m_830 kw_A_numberOf ⟨by rw [hR]; decide, by rw [hR]; decide⟩ rfl rfl) (va_recv hK hP (ci := 2) (q0 := 26) rfl rfl) hN hK hP hD hS hA rfl hl.1 rfl (Nat.le_of_ble_eq_true rfl) d_Q_cell_18 ⟨by rw [hR]; exact Nat.le_of_ble_eq_true rfl, by rw [hR]; exact Nat.le_of_ble_eq_true rfl⟩ (fun H locs hP hD hS => ?_)
    refine lv_goto (tgt := 25) hx hb d_Q_cell_21 (by decide) ?_
    exact rf_L (w := (fun z => wX g ca a z ++ tl)) h hx hb hr hlk hK hP hD hS d_Q_cell_25
set_option maxRecDepth 100000 in
set_option maxHeartbeats 4000000 in
theorem c_A_lacks (l : Launch) (D : va_G) (ca : Nat → ClassId) (g : Bool) (a : Nat → Nat) (tl : va_W) (N : Nat) (σ σ' : St) (x1 : Int32) (x2 : Int32) (r : Int32) (h : f_A_lacks N σ x1 x2 = some (r, σ')) : CtI l y_A_lacks ws_A_lacks rm_A_lacks 0 0 D vCl (tyX ca) nwX [.ref (a 26), .int x1, .int x2] (wX g ca a σ ++ tl) (wX g ca a σ' ++ tl) r := by
  refine en_Z (ws' := BIG) (by decide +kernel) rfl (Nat.le_of_ble_eq_true rfl) ?_
  intro p e s m below meth c A ls R args H locs hR hx hb hr hlk hml hown hB hK hN hP hD hA hS hl
  have hl : lv_has ls 3 [(0, .ref (a 26)), (1, .int x1), (2, .int x2)] := hl
  unfold f_A_lacks at h
  refine lv_aload_n hx hb d_A_lacks_0 rfl (lv_at hl 0 rfl) ?_
  refine lv_aload_n hx hb d_A_lacks_1 rfl (lv_at hl 0 rfl) ?_
  refine Xg_26_6 hx hb hB hown (hB _ m_292) hK hP d_A_lacks_2 ?_
  refine lv_aload_n hx hb d_A_lacks_5 rfl (lv_at hl 0 rfl) ?_
  refine Xg_26_3 hx hb hB hown (hB _ m_289) hK hP d_A_lacks_6 ?_
  refine lv_iload_n hx hb d_A_lacks_9 rfl (lv_at hl 1 rfl) ?_
  refine lv_iadd hx hb d_A_lacks_10 ?_
  obtain ⟨hi, h⟩ := ckb_some h
  refine Xa_29 hx hb hK hP hi d_A_lacks_11 ?_
  refine lv_iload_n hx hb d_A_lacks_12 rfl (lv_at hl 2 rfl) ?_
  obtain ⟨r1, s2, hr1, h⟩ := bd_some h
  refine go_VI (rest := []) ⟨hx, hb, hml, hown, hB⟩ nwX_ok (c_A_isNullAt l D ca g a tl N σ s2 (ga σ 21 (((gi σ 15) + x1)).toNatClampNeg) x2 r1 hr1) (cwx_V hB m_814 kw_A_isNullAt ⟨by rw [hR]; decide, by rw [hR]; decide⟩ rfl rfl) (va_recv hK hP (ci := 2) (q0 := 26) rfl rfl) hN hK hP hD hS hA rfl hl.1 rfl (Nat.le_of_ble_eq_true rfl) d_A_lacks_13 ⟨by rw [hR]; exact Nat.le_of_ble_eq_true rfl, by rw [hR]; exact Nat.le_of_ble_eq_true rfl⟩ (fun H locs hP hD hS => ?_)
  obtain ⟨hi, h⟩ := ckt_some h
  exact rf_Z (w := (fun z => wX g ca a z ++ tl)) h hx hb hr hlk hK hP hD hS hi.1 d_A_lacks_16
set_option maxRecDepth 100000 in
set_option maxHeartbeats 4000000 in
theorem c_Q_isNull (l : Launch) (D : va_G) (ca : Nat → ClassId) (g : Bool) (a : Nat → Nat) (tl : va_W) (N : Nat) (σ σ' : St) (x1 : Int32) (x2 : Int32) (r : Int32) (h : f_Q_isNull N σ x1 x2 = some (r, σ')) : CtI l y_Q_isNull ws_Q_isNull rm_Q_isNull 0 0 D vCl (tyX ca) nwX [.ref (a 0), .int x1, .int x2] (wX g ca a σ ++ tl) (wX g ca a σ' ++ tl) r := by
  refine en_Z (ws' := BIG) (by decide +kernel) rfl (Nat.le_of_ble_eq_true rfl) ?_
  intro p e s m below meth c A ls R args H locs hR hx hb hr hlk hml hown hB hK hN hP hD hA hS hl
  have hl : lv_has ls 3 [(0, .ref (a 0)), (1, .int x1), (2, .int x2)] := hl
  unfold f_Q_isNull at h
  refine lv_aload_n hx hb d_Q_isNull_0 rfl (lv_at hl 0 rfl) ?_
  refine Xg_0_3 hx hb hB hown (hB _ m_392) hK hP d_Q_isNull_1 ?_
  refine lv_iload_n hx hb d_Q_isNull_4 rfl (lv_at hl 1 rfl) ?_
  refine lv_iload_n hx hb d_Q_isNull_5 rfl (lv_at hl 2 rfl) ?_
  obtain ⟨r1, s2, hr1, h⟩ := bd_some h
  refine go_VI (rest := []) ⟨hx, hb, hml, hown, hB⟩ nwX_ok (c_A_has l D ca g a tl N σ s2 x1 x2 r1 hr1) (cwx_V hB m_826 kw_A_has ⟨by rw [hR]; decide, by rw [hR]; decide⟩ rfl rfl) (va_recv hK hP (ci := 2) (q0 := 26) rfl rfl) hN hK hP hD hS hA rfl hl.1 rfl (Nat.le_of_ble_eq_true rfl) d_Q_isNull_6 ⟨by rw [hR]; exact Nat.le_of_ble_eq_true rfl, by rw [hR]; exact Nat.le_of_ble_eq_true rfl⟩ (fun H locs hP hD hS => ?_)
  refine lv_if_eq (tgt := 28) hx hb d_Q_isNull_9 (by decide) (fun hc => ?_) (fun hc => ?_)
  · replace h := it_t h hc
    refine lv_iconst (v := (0 : Int32)) hx hb d_Q_isNull_28 (by decide) ?_
    exact rf_Z (w := (fun z => wX g ca a z ++ tl)) h hx hb hr hlk hK hP hD hS rfl d_Q_isNull_29
  · replace h := it_f h hc
    refine lv_aload_n hx hb d_Q_isNull_12 rfl (lv_at hl 0 rfl) ?_
    refine Xg_0_3 hx hb hB hown (hB _ m_392) hK hP d_Q_isNull_13 ?_
    refine lv_iload_n hx hb d_Q_isNull_16 rfl (lv_at hl 1 rfl) ?_
    refine lv_iload_n hx hb d_Q_isNull_17 rfl (lv_at hl 2 rfl) ?_
    obtain ⟨r3, s4, hr3, h⟩ := bd_some h
    refine go_VI (rest := []) ⟨hx, hb, hml, hown, hB⟩ nwX_ok (c_A_lacks l D ca g a tl N s2 s4 x1 x2 r3 hr3) (cwx_V hB m_838 kw_A_lacks ⟨by rw [hR]; decide, by rw [hR]; decide⟩ rfl rfl) (va_recv hK hP (ci := 2) (q0 := 26) rfl rfl) hN hK hP hD hS hA rfl hl.1 rfl (Nat.le_of_ble_eq_true rfl) d_Q_isNull_18 ⟨by rw [hR]; exact Nat.le_of_ble_eq_true rfl, by rw [hR]; exact Nat.le_of_ble_eq_true rfl⟩ (fun H locs hP hD hS => ?_)
    refine lv_if_eq (tgt := 28) hx hb d_Q_isNull_21 (by decide) (fun hc => ?_) (fun hc => ?_)
    · replace h := it_t h hc
      refine lv_iconst (v := (0 : Int32)) hx hb d_Q_isNull_28 (by decide) ?_
      exact rf_Z (w := (fun z => wX g ca a z ++ tl)) h hx hb hr hlk hK hP hD hS rfl d_Q_isNull_29
    · replace h := it_f h hc
      refine lv_iconst (v := (1 : Int32)) hx hb d_Q_isNull_24 (by decide) ?_
      refine lv_goto (tgt := 29) hx hb d_Q_isNull_25 (by decide) ?_
      exact rf_Z (w := (fun z => wX g ca a z ++ tl)) h hx hb hr hlk hK hP hD hS rfl d_Q_isNull_29
set_option maxRecDepth 100000 in
set_option maxHeartbeats 4000000 in
theorem c_Q_answer (l : Launch) (D : va_G) (ca : Nat → ClassId) (g : Bool) (a : Nat → Nat) (tl : va_W) (N : Nat) (σ σ' : St) (x1 : Int32) (r : Int32) (h : f_Q_answer N σ x1 = some (r, σ')) : CtI l y_Q_answer ws_Q_answer rm_Q_answer 0 0 D vCl (tyX ca) nwX [.ref (a 0), .int x1] (wX g ca a σ ++ tl) (wX g ca a σ' ++ tl) r := by
  refine en_I (ws' := BIG) (by decide +kernel) rfl (Nat.le_of_ble_eq_true rfl) ?_
  intro p e s m below meth c A ls R args H locs hR hx hb hr hlk hml hown hB hK hN hP hD hA hS hl
  have hl : lv_has ls 2 [(0, .ref (a 0)), (1, .int x1)] := hl
  unfold f_Q_answer at h
  refine lv_iload_n hx hb d_Q_answer_0 rfl (lv_at hl 1 rfl) ?_
  refine lv_if_ne (tgt := 12) hx hb d_Q_answer_1 (by decide) (fun hc => ?_) (fun hc => ?_)
  · replace h := it_f h hc
    refine lv_iload_n hx hb d_Q_answer_12 rfl (lv_at hl 1 rfl) ?_
    refine lv_iconst (v := (1 : Int32)) hx hb d_Q_answer_13 (by decide) ?_
    refine lv_icmp_ne (tgt := 27) hx hb d_Q_answer_14 (by decide) (fun hc => ?_) (fun hc => ?_)
    · replace h := it_f h hc
      refine lv_iconst (v := (-1 : Int32)) hx hb d_Q_answer_27 (by decide) ?_
      exact rf_I (w := (fun z => wX g ca a z ++ tl)) h hx hb hr hlk hK hP hD hS d_Q_answer_28
    · replace h := it_t h hc
      refine lv_aload_n hx hb d_Q_answer_17 rfl (lv_at hl 0 rfl) ?_
      refine Xg_0_3 hx hb hB hown (hB _ m_392) hK hP d_Q_answer_18 ?_
      refine Xg_26_0 hx hb hB hown (hB _ m_285) hK hP d_Q_answer_21 ?_
      refine lv_goto (tgt := 28) hx hb d_Q_answer_24 (by decide) ?_
      exact rf_I (w := (fun z => wX g ca a z ++ tl)) h hx hb hr hlk hK hP hD hS d_Q_answer_28
  · replace h := it_t h hc
    refine lv_aload_n hx hb d_Q_answer_4 rfl (lv_at hl 0 rfl) ?_
    refine Xg_0_3 hx hb hB hown (hB _ m_392) hK hP d_Q_answer_5 ?_
    refine Xg_26_1 hx hb hB hown (hB _ m_287) hK hP d_Q_answer_8 ?_
    exact rf_I (w := (fun z => wX g ca a z ++ tl)) h hx hb hr hlk hK hP hD hS d_Q_answer_11
