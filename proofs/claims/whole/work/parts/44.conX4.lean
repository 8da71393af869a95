set_option maxRecDepth 100000 in
set_option maxHeartbeats 4000000 in
theorem c_A_compare (l : Launch) (D : va_G) (ca : Nat → ClassId) (g : Bool) (a : Nat → Nat) (tl : va_W) (N : Nat) (σ σ' : St) (x1 : Int32) (x2 : Int32) (r : Int32) (h : f_A_compare N σ x1 x2 = some (r, σ')) : CtI l y_A_compare ws_A_compare rm_A_compare 0 0 D vCl (tyX ca) nwX [.ref (a 26), .int x1, .int x2, .ref (a 18)] (wX g ca a σ ++ tl) (wX g ca a σ' ++ tl) r := by
  refine en_I (ws' := BIG) (by decide +kernel) rfl (Nat.le_of_ble_eq_true rfl) ?_
  intro p e s m below meth c A ls R args H locs hR hx hb hr hlk hml hown hB hK hN hP hD hA hS hl
  have hl : lv_has ls 7 [(0, .ref (a 26)), (1, .int x1), (2, .int x2), (3, .ref (a 18))] := hl
  unfold f_A_compare at h
  refine lv_iconst (v := (0 : Int32)) hx hb d_A_compare_0 (by decide) ?_
  have L3 : ∀ (n : Nat) (σ : St) (x1 : Int32) (x2 : Int32) (x4 : Int32) (H : Heap) (locs : List Loc) (ls : Array Slot), va_P D vCl (wX g ca a σ ++ tl) H → va_D A (wX g ca a σ ++ tl) → va_S A s.heap H locs → lv_has ls 7 [(0, .ref (a 26)), (1, .int x1), (2, .int x2), (3, .ref (a 18)), (4, .int x4)] → f_A_compare_3 N n σ x1 x2 x4 = some (r, σ') → W p l e R s m args below meth c H locs 0 0 (MQ below (qb_QI D vCl (tyX ca) (wX g ca a σ' ++ tl) A r) args s 0 0 A) (F0 m 3 ls []) := by
    intro n
    induction n with
    | zero => intro σ x1 x2 x4 H locs ls hP hD hS hl h; cases h
    | succ n ih3 =>
        intro σ x1 x2 x4 H locs ls hP hD hS hl h
        obtain ⟨K3, eK3⟩ : ∃ K, K = f_A_compare_3 N n := ⟨_, rfl⟩
        rw [← eK3] at ih3
        replace h : f_A_compare_3_b N K3 σ x1 x2 x4 = some (r, σ') := by rw [eK3]; exact h
        unfold f_A_compare_3_b at h
        refine lv_iload hx hb d_A_compare_3 (lv_at hl 4 rfl) ?_
        refine lv_aload_n hx hb d_A_compare_5 rfl (lv_at hl 3 rfl) ?_
        refine Xg_18_10 hx hb hB hown (hB _ m_233) hK hP d_A_compare_6 ?_
        refine lv_icmp_ge (tgt := 61) hx hb d_A_compare_9 (by decide) (fun hc => ?_) (fun hc => ?_)
        · replace h := it_t h hc
          refine lv_iconst (v := (0 : Int32)) hx hb d_A_compare_61 (by decide) ?_
          exact rf_I (w := (fun z => wX g ca a z ++ tl)) h hx hb hr hlk hK hP hD hS d_A_compare_62
        · replace h := it_f h hc
          refine lv_aload_n hx hb d_A_compare_12 rfl (lv_at hl 3 rfl) ?_
          refine Xg_18_11 hx hb hB hown (hB _ m_236) hK hP d_A_compare_13 ?_
          refine lv_iload hx hb d_A_compare_16 (lv_at hl 4 rfl) ?_
          obtain ⟨hi, h⟩ := ckb_some h
          refine Xa_24 hx hb hK hP hi d_A_compare_18 ?_
          refine lv_istore (lv' := [(5, .int (ga σ 18 (x4).toNatClampNeg)), (0, .ref (a 26)), (1, .int x1), (2, .int x2), (3, .ref (a 18)), (4, .int x4)]) hx hb d_A_compare_19 hl (by decide) rfl (fun ls hl => ?_)
          refine lv_aload_n hx hb d_A_compare_21 rfl (lv_at hl 1 rfl) ?_
          refine lv_iload_n hx hb d_A_compare_22 rfl (lv_at hl 2 rfl) ?_
          refine lv_iload_n hx hb d_A_compare_23 rfl (lv_at hl 3 rfl) ?_
          refine lv_iload hx hb d_A_compare_24 (lv_at hl 0 rfl) ?_
          obtain ⟨r1, s2, hr1, h⟩ := bd_some h
          refine go_VI (rest := []) ⟨hx, hb, hml, hown, hB⟩ nwX_ok (c_A_compareItem l D ca g a tl N σ s2 x1 x2 (ga σ 18 (x4).toNatClampNeg) r1 hr1) (cwx_V hB m_810 kw_A_compareItem ⟨by rw [hR]; decide, by rw [hR]; decide⟩ rfl rfl) (va_recv hK hP (ci := 2) (q0 := 26) rfl rfl) hN hK hP hD hS hA rfl hl.1 rfl (Nat.le_of_ble_eq_true rfl) d_A_compare_26 ⟨by rw [hR]; exact Nat.le_of_ble_eq_true rfl, by rw [hR]; exact Nat.le_of_ble_eq_true rfl⟩ (fun H locs hP hD hS => ?_)
          refine lv_istore (lv' := [(6, .int r1), (5, .int (ga σ 18 (x4).toNatClampNeg)), (0, .ref (a 26)), (1, .int x1), (2, .int x2), (3, .ref (a 18)), (4, .int x4)]) hx hb d_A_compare_29 hl (by decide) rfl (fun ls hl => ?_)
          refine lv_iload hx hb d_A_compare_31 (lv_at hl 0 rfl) ?_
          refine lv_if_eq (tgt := 55) hx hb d_A_compare_33 (by decide) (fun hc => ?_) (fun hc => ?_)
          · replace h := it_t h hc
            refine lv_iinc (v := (x4 + 1)) (lv' := [(4, .int (x4 + 1)), (6, .int r1), (5, .int (ga σ 18 (x4).toNatClampNeg)), (0, .ref (a 26)), (1, .int x1), (2, .int x2), (3, .ref (a 18))]) hx hb d_A_compare_55 hl (k := 6) rfl rfl (by decide) rfl (fun ls hl => ?_)
            refine lv_goto (tgt := 3) hx hb d_A_compare_58 (by decide) ?_
            exact ih3 s2 x1 x2 (x4 + 1) H locs ls hP hD hS (lv_sub hl [3, 4, 5, 6, 0] rfl) h
          · replace h := it_f h hc
            refine lv_aload_n hx hb d_A_compare_36 rfl (lv_at hl 5 rfl) ?_
            refine Xg_18_12 hx hb hB hown (hB _ m_238) hK hP d_A_compare_37 ?_
            refine lv_iload hx hb d_A_compare_40 (lv_at hl 6 rfl) ?_
            obtain ⟨hi, h⟩ := ckb_some h
            refine Xa_25 hx hb hK hP hi d_A_compare_42 ?_
            refine lv_if_eq (tgt := 52) hx hb d_A_compare_43 (by decide) (fun hc => ?_) (fun hc => ?_)
            · replace h := it_t h hc
              refine lv_iload hx hb d_A_compare_52 (lv_at hl 0 rfl) ?_
              exact rf_I (w := (fun z => wX g ca a z ++ tl)) h hx hb hr hlk hK hP hD hS d_A_compare_54
            · replace h := it_f h hc
              refine lv_iload hx hb d_A_compare_46 (lv_at hl 0 rfl) ?_
              refine lv_ineg hx hb d_A_compare_48 ?_
              refine lv_goto (tgt := 54) hx hb d_A_compare_49 (by decide) ?_
              exact rf_I (w := (fun z => wX g ca a z ++ tl)) h hx hb hr hlk hK hP hD hS d_A_compare_54
  refine lv_istore (lv' := [(4, .int (0 : Int32)), (0, .ref (a 26)), (1, .int x1), (2, .int x2), (3, .ref (a 18))]) hx hb d_A_compare_1 hl (by decide) rfl (fun ls hl => ?_)
  exact L3 N σ x1 x2 (0 : Int32) H locs ls hP hD hS (lv_sub hl [1, 2, 3, 4, 0] rfl) h
set_option maxRecDepth 100000 in
set_option maxHeartbeats 4000000 in
theorem c_A_insertInOrder (l : Launch) (D : va_G) (ca : Nat → ClassId) (g : Bool) (a : Nat → Nat) (tl : va_W) (N : Nat) (σ σ' : St) (x1 : Int32) (x2 : Int32) (h : f_A_insertInOrder N σ x1 x2 = some ((), σ')) : CtV l y_A_insertInOrder ws_A_insertInOrder rm_A_insertInOrder 0 0 D vCl (tyX ca) nwX [.ref (a 26), .int x1, .int x2, .ref (a 18)] (wX g ca a σ ++ tl) (wX g ca a σ' ++ tl) := by
  refine en_V (ws' := BIG) (by decide +kernel) rfl (Nat.le_of_ble_eq_true rfl) ?_
  intro p e s m below meth c A ls R args H locs hR hx hb hr hlk hml hown hB hK hN hP hD hA hS hl
  have hl : lv_has ls 5 [(0, .ref (a 26)), (1, .int x1), (2, .int x2), (3, .ref (a 18))] := hl
  unfold f_A_insertInOrder at h
  refine lv_iload_n hx hb d_A_insertInOrder_0 rfl (lv_at hl 2 rfl) ?_
  have L3 : ∀ (n : Nat) (σ : St) (x1 : Int32) (x4 : Int32) (H : Heap) (locs : List Loc) (ls : Array Slot), va_P D vCl (wX g ca a σ ++ tl) H → va_D A (wX g ca a σ ++ tl) → va_S A s.heap H locs → lv_has ls 5 [(0, .ref (a 26)), (1, .int x1), (3, .ref (a 18)), (4, .int x4)] → f_A_insertInOrder_3 N n σ x1 x4 = some ((), σ') → W p l e R s m args below meth c H locs 0 0 (MQ below (qb_QV D vCl (tyX ca) (wX g ca a σ' ++ tl) A) args s 0 0 A) (F0 m 3 ls []) := by
    intro n
    induction n with
    | zero => intro σ x1 x4 H locs ls hP hD hS hl h; cases h
    | succ n ih3 =>
        intro σ x1 x4 H locs ls hP hD hS hl h
        obtain ⟨K3, eK3⟩ : ∃ K, K = f_A_insertInOrder_3 N n := ⟨_, rfl⟩
        rw [← eK3] at ih3
        replace h : f_A_insertInOrder_3_b N K3 σ x1 x4 = some ((), σ') := by rw [eK3]; exact h
        unfold f_A_insertInOrder_3_b at h
        refine lv_iload hx hb d_A_insertInOrder_3 (lv_at hl 3 rfl) ?_
        refine lv_if_le (tgt := 48) hx hb d_A_insertInOrder_5 (by decide) (fun hc => ?_) (fun hc => ?_)
        · replace h := it_t h hc
          refine lv_aload_n hx hb d_A_insertInOrder_48 rfl (lv_at hl 0 rfl) ?_
          refine Xg_26_6 hx hb hB hown (hB _ m_292) hK hP d_A_insertInOrder_49 ?_
          refine lv_iload hx hb d_A_insertInOrder_52 (lv_at hl 3 rfl) ?_
          refine lv_iload_n hx hb d_A_insertInOrder_54 rfl (lv_at hl 1 rfl) ?_
          obtain ⟨hi, h⟩ := ckb_some h
          obtain ⟨s1, es1, h⟩ := nm_some h
          refine Xs_29 es1 hx hb hK hP hD hS hi d_A_insertInOrder_55 (fun H locs hP hD hS => ?_)
          exact rf_V (w := (fun z => wX g ca a z ++ tl)) h hx hb hr hlk hK hP hD hS d_A_insertInOrder_56
        · replace h := it_f h hc
          refine lv_aload_n hx hb d_A_insertInOrder_8 rfl (lv_at hl 0 rfl) ?_
          refine lv_aload_n hx hb d_A_insertInOrder_9 rfl (lv_at hl 0 rfl) ?_
          refine Xg_26_6 hx hb hB hown (hB _ m_292) hK hP d_A_insertInOrder_10 ?_
          refine lv_iload hx hb d_A_insertInOrder_13 (lv_at hl 3 rfl) ?_
          refine lv_iconst (v := (1 : Int32)) hx hb d_A_insertInOrder_15 (by decide) ?_
          refine lv_isub hx hb d_A_insertInOrder_16 ?_
          obtain ⟨hi, h⟩ := ckb_some h
          refine Xa_29 hx hb hK hP hi d_A_insertInOrder_17 ?_
          refine lv_iload_n hx hb d_A_insertInOrder_18 rfl (lv_at hl 1 rfl) ?_
          refine lv_aload_n hx hb d_A_insertInOrder_19 rfl (lv_at hl 2 rfl) ?_
          obtain ⟨r2, s3, hr2, h⟩ := bd_some h
          refine go_VI (rest := []) ⟨hx, hb, hml, hown, hB⟩ nwX_ok (c_A_compare l D ca g a tl N σ s3 (ga σ 21 ((x4 - (1 : Int32))).toNatClampNeg) x1 r2 hr2) (cwx_V hB m_806 kw_A_compare ⟨by rw [hR]; decide, by rw [hR]; decide⟩ rfl rfl) (va_recv hK hP (ci := 2) (q0 := 26) rfl rfl) hN hK hP hD hS hA rfl hl.1 rfl (Nat.le_of_ble_eq_true rfl) d_A_insertInOrder_20 ⟨by rw [hR]; exact Nat.le_of_ble_eq_true rfl, by rw [hR]; exact Nat.le_of_ble_eq_true rfl⟩ (fun H locs hP hD hS => ?_)
          refine lv_if_le (tgt := 48) hx hb d_A_insertInOrder_23 (by decide) (fun hc => ?_) (fun hc => ?_)
          · replace h := it_t h hc
            refine lv_aload_n hx hb d_A_insertInOrder_48 rfl (lv_at hl 0 rfl) ?_
            refine Xg_26_6 hx hb hB hown (hB _ m_292) hK hP d_A_insertInOrder_49 ?_
            refine lv_iload hx hb d_A_insertInOrder_52 (lv_at hl 3 rfl) ?_
            refine lv_iload_n hx hb d_A_insertInOrder_54 rfl (lv_at hl 1 rfl) ?_
            obtain ⟨hi, h⟩ := ckb_some h
            obtain ⟨s4, es4, h⟩ := nm_some h
            refine Xs_29 es4 hx hb hK hP hD hS hi d_A_insertInOrder_55 (fun H locs hP hD hS => ?_)
            exact rf_V (w := (fun z => wX g ca a z ++ tl)) h hx hb hr hlk hK hP hD hS d_A_insertInOrder_56
          · replace h := it_f h hc
            refine lv_aload_n hx hb d_A_insertInOrder_26 rfl (lv_at hl 0 rfl) ?_
            refine Xg_26_6 hx hb hB hown (hB _ m_292) hK hP d_A_insertInOrder_27 ?_
            refine lv_iload hx hb d_A_insertInOrder_30 (lv_at hl 3 rfl) ?_
            refine lv_aload_n hx hb d_A_insertInOrder_32 rfl (lv_at hl 0 rfl) ?_
            refine Xg_26_6 hx hb hB hown (hB _ m_292) hK hP d_A_insertInOrder_33 ?_
            refine lv_iload hx hb d_A_insertInOrder_36 (lv_at hl 3 rfl) ?_
            refine lv_iconst (v := (1 : Int32)) hx hb d_A_insertInOrder_38 (by decide) ?_
            refine lv_isub hx hb d_A_insertInOrder_39 ?_
            obtain ⟨hi, h⟩ := ckb_some h
            refine Xa_29 hx hb hK hP hi d_A_insertInOrder_40 ?_
            obtain ⟨hi, h⟩ := ckb_some h
            obtain ⟨s5, es5, h⟩ := nm_some h
            refine Xs_29 es5 hx hb hK hP hD hS hi d_A_insertInOrder_41 (fun H locs hP hD hS => ?_)
            refine lv_iinc (v := (x4 + Int32.ofInt (-1))) (lv' := [(4, .int (x4 + Int32.ofInt (-1))), (0, .ref (a 26)), (1, .int x1), (3, .ref (a 18))]) hx hb d_A_insertInOrder_42 hl (k := 3) rfl rfl (by decide) rfl (fun ls hl => ?_)
            refine lv_goto (tgt := 3) hx hb d_A_insertInOrder_45 (by decide) ?_
            exact ih3 s5 x1 (x4 + Int32.ofInt (-1)) H locs ls hP hD hS (lv_sub hl [1, 2, 3, 0] rfl) h
  refine lv_istore (lv' := [(4, .int x2), (0, .ref (a 26)), (1, .int x1), (2, .int x2), (3, .ref (a 18))]) hx hb d_A_insertInOrder_1 hl (by decide) rfl (fun ls hl => ?_)
  exact L3 N σ x1 x2 H locs ls hP hD hS (lv_sub hl [1, 2, 4, 0] rfl) h
set_option maxRecDepth 100000 in
set_option maxHeartbeats 4000000 in
theorem c_A_isRepeated (l : Launch) (D : va_G) (ca : Nat → ClassId) (g : Bool) (a : Nat → Nat) (tl : va_W) (N : Nat) (σ σ' : St) (x1 : Int32) (r : Int32) (h : f_A_isRepeated N σ x1 = some (r, σ')) : CtI l y_A_isRepeated ws_A_isRepeated rm_A_isRepeated 0 0 D vCl (tyX ca) nwX [.ref (a 26), .int x1] (wX g ca a σ ++ tl) (wX g ca a σ' ++ tl) r := by
  refine en_Z (ws' := BIG) (by decide +kernel) rfl (Nat.le_of_ble_eq_true rfl) ?_
  intro p e s m below meth c A ls R args H locs hR hx hb hr hlk hml hown hB hK hN hP hD hA hS hl
  have hl : lv_has ls 5 [(0, .ref (a 26)), (1, .int x1)] := hl
  unfold f_A_isRepeated at h
  refine lv_iconst (v := (0 : Int32)) hx hb d_A_isRepeated_0 (by decide) ?_
  have L2 : ∀ (n : Nat) (σ : St) (x1 : Int32) (x2 : Int32) (H : Heap) (locs : List Loc) (ls : Array Slot), va_P D vCl (wX g ca a σ ++ tl) H → va_D A (wX g ca a σ ++ tl) → va_S A s.heap H locs → lv_has ls 5 [(0, .ref (a 26)), (1, .int x1), (2, .int x2)] → f_A_isRepeated_2 N n σ x1 x2 = some (r, σ') → W p l e R s m args below meth c H locs 0 0 (MQ below (qb_QI D vCl (tyX ca) (wX g ca a σ' ++ tl) A r) args s 0 0 A) (F0 m 2 ls []) := by
    intro n
    induction n with
    | zero => intro σ x1 x2 H locs ls hP hD hS hl h; cases h
    | succ n ih2 =>
        intro σ x1 x2 H locs ls hP hD hS hl h
        obtain ⟨K2, eK2⟩ : ∃ K, K = f_A_isRepeated_2 N n := ⟨_, rfl⟩
        rw [← eK2] at ih2
        replace h : f_A_isRepeated_2_b N K2 σ x1 x2 = some (r, σ') := by rw [eK2]; exact h
        unfold f_A_isRepeated_2_b at h
        refine lv_iload_n hx hb d_A_isRepeated_2 rfl (lv_at hl 2 rfl) ?_
        refine lv_iload_n hx hb d_A_isRepeated_3 rfl (lv_at hl 1 rfl) ?_
        refine lv_icmp_ge (tgt := 96) hx hb d_A_isRepeated_4 (by decide) (fun hc => ?_) (fun hc => ?_)
        · replace h := it_t h hc
          refine lv_iconst (v := (0 : Int32)) hx hb d_A_isRepeated_96 (by decide) ?_
          exact rf_Z (w := (fun z => wX g ca a z ++ tl)) h hx hb hr hlk hK hP hD hS rfl d_A_isRepeated_97
        · replace h := it_f h hc
          refine lv_aload_n hx hb d_A_isRepeated_7 rfl (lv_at hl 0 rfl) ?_
          refine Xg_26_5 hx hb hB hown (hB _ m_291) hK hP d_A_isRepeated_8 ?_
          refine lv_iload_n hx hb d_A_isRepeated_11 rfl (lv_at hl 2 rfl) ?_
          obtain ⟨hi, h⟩ := ckb_some h
          refine Xa_28 hx hb hK hP hi d_A_isRepeated_12 ?_
          refine lv_aload_n hx hb d_A_isRepeated_13 rfl (lv_at hl 0 rfl) ?_
          refine Xg_26_5 hx hb hB hown (hB _ m_291) hK hP d_A_isRepeated_14 ?_
          refine lv_iload_n hx hb d_A_isRepeated_17 rfl (lv_at hl 1 rfl) ?_
          obtain ⟨hi, h⟩ := ckb_some h
          refine Xa_28 hx hb hK hP hi d_A_isRepeated_18 ?_
          refine lv_icmp_ne (tgt := 26) hx hb d_A_isRepeated_19 (by decide) (fun hc => ?_) (fun hc => ?_)
          · replace h := it_f h hc
            refine lv_iconst (v := (0 : Int32)) hx hb d_A_isRepeated_26 (by decide) ?_
            refine lv_istore_n (lv' := [(3, .int (0 : Int32)), (0, .ref (a 26)), (1, .int x1), (2, .int x2)]) hx hb d_A_isRepeated_27 rfl hl (by decide) rfl (fun ls hl => ?_)
            refine lv_iconst (v := (0 : Int32)) hx hb d_A_isRepeated_28 (by decide) ?_
            have L31 : ∀ (n : Nat) (σ : St) (x1 : Int32) (x2 : Int32) (x3 : Int32) (x4 : Int32) (H : Heap) (locs : List Loc) (ls : Array Slot), va_P D vCl (wX g ca a σ ++ tl) H → va_D A (wX g ca a σ ++ tl) → va_S A s.heap H locs → lv_has ls 5 [(0, .ref (a 26)), (1, .int x1), (2, .int x2), (3, .int x3), (4, .int x4)] → f_A_isRepeated_31 N K2 n σ x1 x2 x3 x4 = some (r, σ') → W p l e R s m args below meth c H locs 0 0 (MQ below (qb_QI D vCl (tyX ca) (wX g ca a σ' ++ tl) A r) args s 0 0 A) (F0 m 31 ls []) := by
              intro n
              induction n with
              | zero => intro σ x1 x2 x3 x4 H locs ls hP hD hS hl h; cases h
              | succ n ih31 =>
                  intro σ x1 x2 x3 x4 H locs ls hP hD hS hl h
                  obtain ⟨K31, eK31⟩ : ∃ K, K = f_A_isRepeated_31 N K2 n := ⟨_, rfl⟩
                  rw [← eK31] at ih31
                  replace h : f_A_isRepeated_31_b N K2 K31 σ x1 x2 x3 x4 = some (r, σ') := by rw [eK31]; exact h
                  unfold f_A_isRepeated_31_b at h
                  refine lv_iload_n hx hb d_A_isRepeated_31 rfl (lv_at hl 3 rfl) ?_
                  have L84 : ∀ (σ : St) (x1 : Int32) (x2 : Int32) (x3 : Int32) (H : Heap) (locs : List Loc) (ls : Array Slot), va_P D vCl (wX g ca a σ ++ tl) H → va_D A (wX g ca a σ ++ tl) → va_S A s.heap H locs → lv_has ls 5 [(0, .ref (a 26)), (1, .int x1), (2, .int x2), (3, .int x3)] → f_A_isRepeated_84 N K2 σ x1 x2 x3 = some (r, σ') → W p l e R s m args below meth c H locs 0 0 (MQ below (qb_QI D vCl (tyX ca) (wX g ca a σ' ++ tl) A r) args s 0 0 A) (F0 m 84 ls []) := by
                    intro σ x1 x2 x3 H locs ls hP hD hS hl h
                    unfold f_A_isRepeated_84 at h
                    refine lv_iload_n hx hb d_A_isRepeated_84 rfl (lv_at hl 3 rfl) ?_
                    refine lv_if_eq (tgt := 90) hx hb d_A_isRepeated_85 (by decide) (fun hc => ?_) (fun hc => ?_)
                    · replace h := it_t h hc
                      refine lv_iinc (v := (x2 + 1)) (lv' := [(2, .int (x2 + 1)), (0, .ref (a 26)), (1, .int x1), (3, .int x3)]) hx hb d_A_isRepeated_90 hl (k := 2) rfl rfl (by decide) rfl (fun ls hl => ?_)
                      refine lv_goto (tgt := 2) hx hb d_A_isRepeated_93 (by decide) ?_
                      exact ih2 σ x1 (x2 + 1) H locs ls hP hD hS (lv_sub hl [1, 2, 0] rfl) h
                    · replace h := it_f h hc
                      refine lv_iconst (v := (1 : Int32)) hx hb d_A_isRepeated_88 (by decide) ?_
                      exact rf_Z (w := (fun z => wX g ca a z ++ tl)) h hx hb hr hlk hK hP hD hS rfl d_A_isRepeated_89
                  refine lv_if_eq (tgt := 84) hx hb d_A_isRepeated_32 (by decide) (fun hc => ?_) (fun hc => ?_)
                  · replace h := it_t h hc
                    exact L84 σ x1 x2 x3 H locs ls hP hD hS (lv_sub hl [0, 1, 2, 3] rfl) h
                  · replace h := it_f h hc
                    refine lv_iload hx hb d_A_isRepeated_35 (lv_at hl 4 rfl) ?_
                    refine lv_aload_n hx hb d_A_isRepeated_37 rfl (lv_at hl 0 rfl) ?_
                    refine Xg_26_0 hx hb hB hown (hB _ m_284) hK hP d_A_isRepeated_38 ?_
                    refine lv_icmp_ge (tgt := 84) hx hb d_A_isRepeated_41 (by decide) (fun hc => ?_) (fun hc => ?_)
                    · replace h := it_t h hc
                      exact L84 σ x1 x2 x3 H locs ls hP hD hS (lv_sub hl [0, 1, 2, 3] rfl) h
                    · replace h := it_f h hc
                      refine lv_aload_n hx hb d_A_isRepeated_44 rfl (lv_at hl 0 rfl) ?_
                      refine Xg_26_4 hx hb hB hown (hB _ m_290) hK hP d_A_isRepeated_45 ?_
                      refine lv_iload_n hx hb d_A_isRepeated_48 rfl (lv_at hl 2 rfl) ?_
                      refine lv_bipush (v := (6 : Int32)) hx hb d_A_isRepeated_49 (by decide) ?_
                      refine lv_imul hx hb d_A_isRepeated_51 ?_
                      refine lv_iload hx hb d_A_isRepeated_52 (lv_at hl 4 rfl) ?_
                      refine lv_iadd hx hb d_A_isRepeated_54 ?_
                      obtain ⟨hi, h⟩ := ckb_some h
                      refine Xa_27 hx hb hK hP hi d_A_isRepeated_55 ?_
                      refine lv_aload_n hx hb d_A_isRepeated_56 rfl (lv_at hl 0 rfl) ?_
                      refine Xg_26_4 hx hb hB hown (hB _ m_290) hK hP d_A_isRepeated_57 ?_
                      refine lv_iload_n hx hb d_A_isRepeated_60 rfl (lv_at hl 1 rfl) ?_
                      refine lv_bipush (v := (6 : Int32)) hx hb d_A_isRepeated_61 (by decide) ?_
                      refine lv_imul hx hb d_A_isRepeated_63 ?_
                      refine lv_iload hx hb d_A_isRepeated_64 (lv_at hl 4 rfl) ?_
                      refine lv_iadd hx hb d_A_isRepeated_66 ?_
                      obtain ⟨hi, h⟩ := ckb_some h
                      refine Xa_27 hx hb hK hP hi d_A_isRepeated_67 ?_
                      refine W.lcmp hx hb d_A_isRepeated_68 ?_
                      refine lv_if_ne (tgt := 76) hx hb d_A_isRepeated_69 (by decide) (fun hc => ?_) (fun hc => ?_)
                      · replace h := it_f h hc
                        refine lv_iconst (v := (0 : Int32)) hx hb d_A_isRepeated_76 (by decide) ?_
                        refine lv_istore_n (lv' := [(3, .int (0 : Int32)), (0, .ref (a 26)), (1, .int x1), (2, .int x2), (4, .int x4)]) hx hb d_A_isRepeated_77 rfl hl (by decide) rfl (fun ls hl => ?_)
                        refine lv_iinc (v := (x4 + 1)) (lv' := [(4, .int (x4 + 1)), (3, .int (0 : Int32)), (0, .ref (a 26)), (1, .int x1), (2, .int x2)]) hx hb d_A_isRepeated_78 hl (k := 4) rfl rfl (by decide) rfl (fun ls hl => ?_)
                        refine lv_goto (tgt := 31) hx hb d_A_isRepeated_81 (by decide) ?_
                        exact ih31 σ x1 x2 (0 : Int32) (x4 + 1) H locs ls hP hD hS (lv_sub hl [2, 3, 4, 1, 0] rfl) h
                      · replace h := it_t h hc
                        refine lv_iconst (v := (1 : Int32)) hx hb d_A_isRepeated_72 (by decide) ?_
                        refine lv_goto (tgt := 77) hx hb d_A_isRepeated_73 (by decide) ?_
                        refine lv_istore_n (lv' := [(3, .int (1 : Int32)), (0, .ref (a 26)), (1, .int x1), (2, .int x2), (4, .int x4)]) hx hb d_A_isRepeated_77 rfl hl (by decide) rfl (fun ls hl => ?_)
                        refine lv_iinc (v := (x4 + 1)) (lv' := [(4, .int (x4 + 1)), (3, .int (1 : Int32)), (0, .ref (a 26)), (1, .int x1), (2, .int x2)]) hx hb d_A_isRepeated_78 hl (k := 4) rfl rfl (by decide) rfl (fun ls hl => ?_)
                        refine lv_goto (tgt := 31) hx hb d_A_isRepeated_81 (by decide) ?_
                        exact ih31 σ x1 x2 (1 : Int32) (x4 + 1) H locs ls hP hD hS (lv_sub hl [2, 3, 4, 1, 0] rfl) h
            refine lv_istore (lv' := [(4, .int (0 : Int32)), (3, .int (0 : Int32)), (0, .ref (a 26)), (1, .int x1), (2, .int x2)]) hx hb d_A_isRepeated_29 hl (by decide) rfl (fun ls hl => ?_)
            exact L31 N σ x1 x2 (0 : Int32) (0 : Int32) H locs ls hP hD hS (lv_sub hl [2, 3, 4, 1, 0] rfl) h
          · replace h := it_t h hc
            refine lv_iconst (v := (1 : Int32)) hx hb d_A_isRepeated_22 (by decide) ?_
            refine lv_goto (tgt := 27) hx hb d_A_isRepeated_23 (by decide) ?_
            refine lv_istore_n (lv' := [(3, .int (1 : Int32)), (0, .ref (a 26)), (1, .int x1), (2, .int x2)]) hx hb d_A_isRepeated_27 rfl hl (by decide) rfl (fun ls hl => ?_)
            refine lv_iconst (v := (0 : Int32)) hx hb d_A_isRepeated_28 (by decide) ?_
            have L31 : ∀ (n : Nat) (σ : St) (x1 : Int32) (x2 : Int32) (x3 : Int32) (x4 : Int32) (H : Heap) (locs : List Loc) (ls : Array Slot), va_P D vCl (wX g ca a σ ++ tl) H → va_D A (wX g ca a σ ++ tl) → va_S A s.heap H locs → lv_has ls 5 [(0, .ref (a 26)), (1, .int x1), (2, .int x2), (3, .int x3), (4, .int x4)] → f_A_isRepeated_31 N K2 n σ x1 x2 x3 x4 = some (r, σ') → W p l e R s m args below meth c H locs 0 0 (MQ below (qb_QI D vCl (tyX ca) (wX g ca a σ' ++ tl) A r) args s 0 0 A) (F0 m 31 ls []) := by
              intro n
              induction n with
              | zero => intro σ x1 x2 x3 x4 H locs ls hP hD hS hl h; cases h
              | succ n ih31 =>
                  intro σ x1 x2 x3 x4 H locs ls hP hD hS hl h
                  obtain ⟨K31, eK31⟩ : ∃ K, K = f_A_isRepeated_31 N K2 n := ⟨_, rfl⟩
                  rw [← eK31] at ih31
                  replace h : f_A_isRepeated_31_b N K2 K31 σ x1 x2 x3 x4 = some (r, σ') := by rw [eK31]; exact h
                  unfold f_A_isRepeated_31_b at h
                  refine lv_iload_n hx hb d_A_isRepeated_31 rfl (lv_at hl 3 rfl) ?_
                  have L84 : ∀ (σ : St) (x1 : Int32) (x2 : Int32) (x3 : Int32) (H : Heap) (locs : List Loc) (ls : Array Slot), va_P D vCl (wX g ca a σ ++ tl) H → va_D A (wX g ca a σ ++ tl) → va_S A s.heap H locs → lv_has ls 5 [(0, .ref (a 26)), (1, .int x1), (2, .int x2), (3, .int x3)] → f_A_isRepeated_84 N K2 σ x1 x2 x3 = some (r, σ') → W p l e R s m args below meth c H locs 0 0 (MQ below (qb_QI D vCl (tyX ca) (wX g ca a σ' ++ tl) A r) args s 0 0 A) (F0 m 84 ls []) := by
                    intro σ x1 x2 x3 H locs ls hP hD hS hl h
                    unfold f_A_isRepeated_84 at h
                    refine lv_iload_n hx hb d_A_isRepeated_84 rfl (lv_at hl 3 rfl) ?_
                    refine lv_if_eq (tgt := 90) hx hb d_A_isRepeated_85 (by decide) (fun hc => ?_) (fun hc => ?_)
                    · replace h := it_t h hc
                      refine lv_iinc (v := (x2 + 1)) (lv' := [(2, .int (x2 + 1)), (0, .ref (a 26)), (1, .int x1), (3, .int x3)]) hx hb d_A_isRepeated_90 hl (k := 2) rfl rfl (by decide) rfl (fun ls hl => ?_)
                      refine lv_goto (tgt := 2) hx hb d_A_isRepeated_93 (by decide) ?_
                      exact ih2 σ x1 (x2 + 1) H locs ls hP hD hS (lv_sub hl [1, 2, 0] rfl) h
                    · replace h := it_f h hc
                      refine lv_iconst (v := (1 : Int32)) hx hb d_A_isRepeated_88 (by decide) ?_
                      exact rf_Z (w := (fun z => wX g ca a z ++ tl)) h hx hb hr hlk hK hP hD hS rfl d_A_isRepeated_89
                  refine lv_if_eq (tgt := 84) hx hb d_A_isRepeated_32 (by decide) (fun hc => ?_) (fun hc => ?_)
                  · replace h := it_t h hc
                    exact L84 σ x1 x2 x3 H locs ls hP hD hS (lv_sub hl [0, 1, 2, 3] rfl) h
                  · replace h := it_f h hc
                    refine lv_iload hx hb d_A_isRepeated_35 (lv_at hl 4 rfl) ?_
                    refine lv_aload_n hx hb d_A_isRepeated_37 rfl (lv_at hl 0 rfl) ?_
                    refine Xg_26_0 hx hb hB hown (hB _ m_284) hK hP d_A_isRepeated_38 ?_
                    refine lv_icmp_ge (tgt := 84) hx hb d_A_isRepeated_41 (by decide) (fun hc => ?_) (fun hc => ?_)
                    · replace h := it_t h hc
                      exact L84 σ x1 x2 x3 H locs ls hP hD hS (lv_sub hl [0, 1, 2, 3] rfl) h
                    · replace h := it_f h hc
                      refine lv_aload_n hx hb d_A_isRepeated_44 rfl (lv_at hl 0 rfl) ?_
                      refine Xg_26_4 hx hb hB hown (hB _ m_290) hK hP d_A_isRepeated_45 ?_
                      refine lv_iload_n hx hb d_A_isRepeated_48 rfl (lv_at hl 2 rfl) ?_
                      refine lv_bipush (v := (6 : Int32)) hx hb d_A_isRepeated_49 (by decide) ?_
                      refine lv_imul hx hb d_A_isRepeated_51 ?_
                      refine lv_iload hx hb d_A_isRepeated_52 (lv_at hl 4 rfl) ?_
                      refine lv_iadd hx hb d_A_isRepeated_54 ?_
                      obtain ⟨hi, h⟩ := ckb_some h
                      refine Xa_27 hx hb hK hP hi d_A_isRepeated_55 ?_
                      refine lv_aload_n hx hb d_A_isRepeated_56 rfl (lv_at hl 0 rfl) ?_
                      refine Xg_26_4 hx hb hB hown (hB _ m_290) hK hP d_A_isRepeated_57 ?_
                      refine lv_iload_n hx hb d_A_isRepeated_60 rfl (lv_at hl 1 rfl) ?_
                      refine lv_bipush (v := (6 : Int32)) hx hb d_A_isRepeated_61 (by decide) ?_
                      refine lv_imul hx hb d_A_isRepeated_63 ?_
                      refine lv_iload hx hb d_A_isRepeated_64 (lv_at hl 4 rfl) ?_
                      refine lv_iadd hx hb d_A_isRepeated_66 ?_
                      obtain ⟨hi, h⟩ := ckb_some h
                      refine Xa_27 hx hb hK hP hi d_A_isRepeated_67 ?_
                      refine W.lcmp hx hb d_A_isRepeated_68 ?_
                      refine lv_if_ne (tgt := 76) hx hb d_A_isRepeated_69 (by decide) (fun hc => ?_) (fun hc => ?_)
                      · replace h := it_f h hc
                        refine lv_iconst (v := (0 : Int32)) hx hb d_A_isRepeated_76 (by decide) ?_
                        refine lv_istore_n (lv' := [(3, .int (0 : Int32)), (0, .ref (a 26)), (1, .int x1), (2, .int x2), (4, .int x4)]) hx hb d_A_isRepeated_77 rfl hl (by decide) rfl (fun ls hl => ?_)
                        refine lv_iinc (v := (x4 + 1)) (lv' := [(4, .int (x4 + 1)), (3, .int (0 : Int32)), (0, .ref (a 26)), (1, .int x1), (2, .int x2)]) hx hb d_A_isRepeated_78 hl (k := 4) rfl rfl (by decide) rfl (fun ls hl => ?_)
                        refine lv_goto (tgt := 31) hx hb d_A_isRepeated_81 (by decide) ?_
                        exact ih31 σ x1 x2 (0 : Int32) (x4 + 1) H locs ls hP hD hS (lv_sub hl [2, 3, 4, 1, 0] rfl) h
                      · replace h := it_t h hc
                        refine lv_iconst (v := (1 : Int32)) hx hb d_A_isRepeated_72 (by decide) ?_
                        refine lv_goto (tgt := 77) hx hb d_A_isRepeated_73 (by decide) ?_
                        refine lv_istore_n (lv' := [(3, .int (1 : Int32)), (0, .ref (a 26)), (1, .int x1), (2, .int x2), (4, .int x4)]) hx hb d_A_isRepeated_77 rfl hl (by decide) rfl (fun ls hl => ?_)
                        refine lv_iinc (v := (x4 + 1)) (lv' := [(4, .int (x4 + 1)), (3, .int (1 : Int32)), (0, .ref (a 26)), (1, .int x1), (2, .int x2)]) hx hb d_A_isRepeated_78 hl (k := 4) rfl rfl (by decide) rfl (fun ls hl => ?_)
                        refine lv_goto (tgt := 31) hx hb d_A_isRepeated_81 (by decide) ?_
                        exact ih31 σ x1 x2 (1 : Int32) (x4 + 1) H locs ls hP hD hS (lv_sub hl [2, 3, 4, 1, 0] rfl) h
            refine lv_istore (lv' := [(4, .int (0 : Int32)), (3, .int (1 : Int32)), (0, .ref (a 26)), (1, .int x1), (2, .int x2)]) hx hb d_A_isRepeated_29 hl (by decide) rfl (fun ls hl => ?_)
            exact L31 N σ x1 x2 (1 : Int32) (0 : Int32) H locs ls hP hD hS (lv_sub hl [2, 3, 4, 1, 0] rfl) h
  refine lv_istore_n (lv' := [(2, .int (0 : Int32)), (0, .ref (a 26)), (1, .int x1)]) hx hb d_A_isRepeated_1 rfl hl (by decide) rfl (fun ls hl => ?_)
  exact L2 N σ x1 (0 : Int32) H locs ls hP hD hS (lv_sub hl [1, 2, 0] rfl) h
set_option maxRecDepth 100000 in
set_option maxHeartbeats 4000000 in
theorem c_A_finish (l : Launch) (D : va_G) (ca : Nat → ClassId) (g : Bool) (a : Nat → Nat) (tl : va_W) (N : Nat) (σ σ' : St) (h : f_A_finish N σ = some ((), σ')) : CtV l y_A_finish ws_A_finish rm_A_finish 0 0 D vCl (tyX ca) nwX [.ref (a 26), .ref (a 18)] (wX g ca a σ ++ tl) (wX g ca a σ' ++ tl) := by
  refine en_V (ws' := BIG) (by decide +kernel) rfl (Nat.le_of_ble_eq_true rfl) ?_
  intro p e s m below meth c A ls R args H locs hR hx hb hr hlk hml hown hB hK hN hP hD hA hS hl
  have hl : lv_has ls 4 [(0, .ref (a 26)), (1, .ref (a 18))] := hl
  unfold f_A_finish at h
  refine lv_aload_n hx hb d_A_finish_0 rfl (lv_at hl 0 rfl) ?_
  refine lv_aload_n hx hb d_A_finish_1 rfl (lv_at hl 1 rfl) ?_
  refine Xg_18_8 hx hb hB hown (hB _ m_227) hK hP d_A_finish_2 ?_
  obtain ⟨s1, es1, h⟩ := nm_some h
  refine Xp_26_0 es1 hx hb hB hown (hB _ m_284) hK hP hD hS d_A_finish_5 (fun H locs hP hD hS => ?_)
  refine lv_iconst (v := (0 : Int32)) hx hb d_A_finish_8 (by decide) ?_
  refine lv_istore_n (lv' := [(2, .int (0 : Int32)), (0, .ref (a 26)), (1, .ref (a 18))]) hx hb d_A_finish_9 rfl hl (by decide) rfl (fun ls hl => ?_)
  refine lv_iconst (v := (0 : Int32)) hx hb d_A_finish_10 (by decide) ?_
  have L12 : ∀ (n : Nat) (σ : St) (x2 : Int32) (x3 : Int32) (H : Heap) (locs : List Loc) (ls : Array Slot), va_P D vCl (wX g ca a σ ++ tl) H → va_D A (wX g ca a σ ++ tl) → va_S A s.heap H locs → lv_has ls 4 [(0, .ref (a 26)), (1, .ref (a 18)), (2, .int x2), (3, .int x3)] → f_A_finish_12 N n σ x2 x3 = some ((), σ') → W p l e R s m args below meth c H locs 0 0 (MQ below (qb_QV D vCl (tyX ca) (wX g ca a σ' ++ tl) A) args s 0 0 A) (F0 m 12 ls []) := by
    intro n
    induction n with
    | zero => intro σ x2 x3 H locs ls hP hD hS hl h; cases h
    | succ n ih12 =>
        intro σ x2 x3 H locs ls hP hD hS hl h
        obtain ⟨K12, eK12⟩ : ∃ K, K = f_A_finish_12 N n := ⟨_, rfl⟩
        rw [← eK12] at ih12
        replace h : f_A_finish_12_b N K12 σ x2 x3 = some ((), σ') := by rw [eK12]; exact h
        unfold f_A_finish_12_b at h
        refine lv_iload_n hx hb d_A_finish_12 rfl (lv_at hl 3 rfl) ?_
        refine lv_aload_n hx hb d_A_finish_13 rfl (lv_at hl 0 rfl) ?_
        refine Xg_26_2 hx hb hB hown (hB _ m_288) hK hP d_A_finish_14 ?_
        refine lv_icmp_ge (tgt := 51) hx hb d_A_finish_17 (by decide) (fun hc => ?_) (fun hc => ?_)
        · replace h := it_t h hc
          refine lv_aload_n hx hb d_A_finish_51 rfl (lv_at hl 0 rfl) ?_
          refine lv_aload_n hx hb d_A_finish_52 rfl (lv_at hl 1 rfl) ?_
          refine Xg_18_15 hx hb hB hown (hB _ m_244) hK hP d_A_finish_53 ?_
          refine lv_iload_n hx hb d_A_finish_56 rfl (lv_at hl 2 rfl) ?_
          refine va_mmin hx hb (hml.trans hl.1.symm) hown (hB _ m_821) (hB _ m_422) (hB _ m_82) (hB _ m_423) (by rw [hR]; exact Nat.le_of_ble_eq_true rfl) (by rw [hR]; exact Nat.le_of_ble_eq_true rfl) (by rw [hR]; exact Nat.le_of_ble_eq_true rfl) (by rw [hR]; exact Nat.le_of_ble_eq_true rfl) d_A_finish_57 ?_
          obtain ⟨s2, es2, h⟩ := nm_some h
          refine Xp_26_3 es2 hx hb hB hown (hB _ m_289) hK hP hD hS d_A_finish_60 (fun H locs hP hD hS => ?_)
          refine lv_aload_n hx hb d_A_finish_63 rfl (lv_at hl 0 rfl) ?_
          refine lv_aload_n hx hb d_A_finish_64 rfl (lv_at hl 1 rfl) ?_
          refine Xg_18_14 hx hb hB hown (hB _ m_242) hK hP d_A_finish_65 ?_
          refine lv_iload_n hx hb d_A_finish_68 rfl (lv_at hl 2 rfl) ?_
          refine lv_aload_n hx hb d_A_finish_69 rfl (lv_at hl 0 rfl) ?_
          refine Xg_26_3 hx hb hB hown (hB _ m_289) hK hP d_A_finish_70 ?_
          refine lv_isub hx hb d_A_finish_73 ?_
          refine va_mmin hx hb (hml.trans hl.1.symm) hown (hB _ m_821) (hB _ m_422) (hB _ m_82) (hB _ m_423) (by rw [hR]; exact Nat.le_of_ble_eq_true rfl) (by rw [hR]; exact Nat.le_of_ble_eq_true rfl) (by rw [hR]; exact Nat.le_of_ble_eq_true rfl) (by rw [hR]; exact Nat.le_of_ble_eq_true rfl) d_A_finish_74 ?_
          obtain ⟨s3, es3, h⟩ := nm_some h
          refine Xp_26_1 es3 hx hb hB hown (hB _ m_286) hK hP hD hS d_A_finish_77 (fun H locs hP hD hS => ?_)
          exact rf_V (w := (fun z => wX g ca a z ++ tl)) h hx hb hr hlk hK hP hD hS d_A_finish_80
        · replace h := it_f h hc
          refine lv_aload_n hx hb d_A_finish_20 rfl (lv_at hl 1 rfl) ?_
          refine Xg_18_13 hx hb hB hown (hB _ m_240) hK hP d_A_finish_21 ?_
          have L35 : ∀ (σ : St) (x2 : Int32) (x3 : Int32) (H : Heap) (locs : List Loc) (ls : Array Slot), va_P D vCl (wX g ca a σ ++ tl) H → va_D A (wX g ca a σ ++ tl) → va_S A s.heap H locs → lv_has ls 4 [(0, .ref (a 26)), (1, .ref (a 18)), (2, .int x2), (3, .int x3)] → f_A_finish_35 N K12 σ x2 x3 = some ((), σ') → W p l e R s m args below meth c H locs 0 0 (MQ below (qb_QV D vCl (tyX ca) (wX g ca a σ' ++ tl) A) args s 0 0 A) (F0 m 35 ls []) := by
            intro σ x2 x3 H locs ls hP hD hS hl h
            unfold f_A_finish_35 at h
            refine lv_aload_n hx hb d_A_finish_35 rfl (lv_at hl 0 rfl) ?_
            refine lv_iload_n hx hb d_A_finish_36 rfl (lv_at hl 3 rfl) ?_
            refine lv_iload_n hx hb d_A_finish_37 rfl (lv_at hl 2 rfl) ?_
            refine lv_aload_n hx hb d_A_finish_38 rfl (lv_at hl 1 rfl) ?_
            obtain ⟨r4, s5, hr4, h⟩ := bd_some h
            cases r4
            refine go_VV (rest := []) ⟨hx, hb, hml, hown, hB⟩ nwX_ok (c_A_insertInOrder l D ca g a tl N σ s5 x3 x2 hr4) (cwx_V hB m_802 kw_A_insertInOrder ⟨by rw [hR]; decide, by rw [hR]; decide⟩ rfl rfl) (va_recv hK hP (ci := 2) (q0 := 26) rfl rfl) hN hK hP hD hS hA rfl hl.1 rfl (Nat.le_of_ble_eq_true rfl) d_A_finish_39 ⟨by rw [hR]; exact Nat.le_of_ble_eq_true rfl, by rw [hR]; exact Nat.le_of_ble_eq_true rfl⟩ (fun H locs hP hD hS => ?_)
            refine lv_iinc (v := (x2 + 1)) (lv' := [(2, .int (x2 + 1)), (0, .ref (a 26)), (1, .ref (a 18)), (3, .int x3)]) hx hb d_A_finish_42 hl (k := 2) rfl rfl (by decide) rfl (fun ls hl => ?_)
            refine lv_iinc (v := (x3 + 1)) (lv' := [(3, .int (x3 + 1)), (2, .int (x2 + 1)), (0, .ref (a 26)), (1, .ref (a 18))]) hx hb d_A_finish_45 hl (k := 3) rfl rfl (by decide) rfl (fun ls hl => ?_)
            refine lv_goto (tgt := 12) hx hb d_A_finish_48 (by decide) ?_
            exact ih12 s5 (x2 + 1) (x3 + 1) H locs ls hP hD hS (lv_sub hl [2, 3, 1, 0] rfl) h
          refine lv_if_eq (tgt := 35) hx hb d_A_finish_24 (by decide) (fun hc => ?_) (fun hc => ?_)
          · replace h := it_t h hc
            exact L35 σ x2 x3 H locs ls hP hD hS (lv_sub hl [0, 1, 2, 3] rfl) h
          · replace h := it_f h hc
            refine lv_aload_n hx hb d_A_finish_27 rfl (lv_at hl 0 rfl) ?_
            refine lv_iload_n hx hb d_A_finish_28 rfl (lv_at hl 3 rfl) ?_
            obtain ⟨r6, s7, hr6, h⟩ := bd_some h
            refine go_VI (rest := []) ⟨hx, hb, hml, hown, hB⟩ nwX_ok (c_A_isRepeated l D ca g a tl N σ s7 x3 r6 hr6) (cwx_V hB m_798 kw_A_isRepeated ⟨by rw [hR]; decide, by rw [hR]; decide⟩ rfl rfl) (va_recv hK hP (ci := 2) (q0 := 26) rfl rfl) hN hK hP hD hS hA rfl hl.1 rfl (Nat.le_of_ble_eq_true rfl) d_A_finish_29 ⟨by rw [hR]; exact Nat.le_of_ble_eq_true rfl, by rw [hR]; exact Nat.le_of_ble_eq_true rfl⟩ (fun H locs hP hD hS => ?_)
            refine lv_if_ne (tgt := 45) hx hb d_A_finish_32 (by decide) (fun hc => ?_) (fun hc => ?_)
            · replace h := it_f h hc
              refine lv_iinc (v := (x3 + 1)) (lv' := [(3, .int (x3 + 1)), (0, .ref (a 26)), (1, .ref (a 18)), (2, .int x2)]) hx hb d_A_finish_45 hl (k := 3) rfl rfl (by decide) rfl (fun ls hl => ?_)
              refine lv_goto (tgt := 12) hx hb d_A_finish_48 (by decide) ?_
              exact ih12 s7 x2 (x3 + 1) H locs ls hP hD hS (lv_sub hl [1, 2, 3, 0] rfl) h
            · replace h := it_t h hc
              exact L35 s7 x2 x3 H locs ls hP hD hS (lv_sub hl [0, 1, 2, 3] rfl) h
  refine lv_istore_n (lv' := [(3, .int (0 : Int32)), (2, .int (0 : Int32)), (0, .ref (a 26)), (1, .ref (a 18))]) hx hb d_A_finish_11 rfl hl (by decide) rfl (fun ls hl => ?_)
  exact L12 N s1 (0 : Int32) (0 : Int32) H locs ls hP hD hS (lv_sub hl [2, 3, 1, 0] rfl) h
set_option maxRecDepth 100000 in
set_option maxHeartbeats 4000000 in
theorem c_G_enter (l : Launch) (D : va_G) (ca : Nat → ClassId) (a : Nat → Nat) (tl : va_W) (N : Nat) (σ σ' : St) (x1 : Int32) (h : f_G_enter N σ x1 = some ((), σ')) : CtV l y_G_enter ws_G_enter rm_G_enter 0 0 D vCl (tyX ca) nwX [.ref (a 35), .int x1, .ref (a 34)] (wX true ca a σ ++ tl) (wX true ca a σ' ++ tl) := by
  refine en_V (ws' := BIG) (by decide +kernel) rfl (Nat.le_of_ble_eq_true rfl) ?_
  intro p e s m below meth c A ls R args H locs hR hx hb hr hlk hml hown hB hK hN hP hD hA hS hl
  have hl : lv_has ls 6 [(0, .ref (a 35)), (1, .int x1), (2, .ref (a 34))] := hl
  unfold f_G_enter at h
  refine lv_aload_n hx hb d_G_enter_0 rfl (lv_at hl 0 rfl) ?_
  refine lv_iload_n hx hb d_G_enter_1 rfl (lv_at hl 1 rfl) ?_
  obtain ⟨s1, es1, h⟩ := nm_some h
  refine Xp_35_14 es1 hx hb hB hown (hB _ m_632) hK hP hD hS d_G_enter_2 (fun H locs hP hD hS => ?_)
  refine lv_aload_n hx hb d_G_enter_5 rfl (lv_at hl 0 rfl) ?_
  refine lv_iconst (v := (0 : Int32)) hx hb d_G_enter_6 (by decide) ?_
  obtain ⟨s2, es2, h⟩ := nm_some h
  refine Xp_35_13 es2 hx hb hB hown (hB _ m_631) hK hP hD hS d_G_enter_7 (fun H locs hP hD hS => ?_)
  refine lv_aload_n hx hb d_G_enter_10 rfl (lv_at hl 0 rfl) ?_
  refine Xg_35_5 hx hb hB hown (hB _ m_622) hK hP d_G_enter_11 ?_
  refine lv_iload_n hx hb d_G_enter_14 rfl (lv_at hl 1 rfl) ?_
  obtain ⟨hi, h⟩ := ckb_some h
  refine Xa_38 hx hb hK hP hi d_G_enter_15 ?_
  refine lv_istore_n (lv' := [(3, .int (ga s2 25 (x1).toNatClampNeg)), (0, .ref (a 35)), (1, .int x1), (2, .ref (a 34))]) hx hb d_G_enter_16 rfl hl (by decide) rfl (fun ls hl => ?_)
  refine lv_iload_n hx hb d_G_enter_17 rfl (lv_at hl 0 rfl) ?_
  refine lv_iconst (v := (-1 : Int32)) hx hb d_G_enter_18 (by decide) ?_
  refine lv_icmp_ne (tgt := 26) hx hb d_G_enter_19 (by decide) (fun hc => ?_) (fun hc => ?_)
  · replace h := it_f h hc
    refine lv_aload_n hx hb d_G_enter_26 rfl (lv_at hl 1 rfl) ?_
    refine Xg_35_8 hx hb hB hown (hB _ m_625) hK hP d_G_enter_27 ?_
    refine lv_iload_n hx hb d_G_enter_30 rfl (lv_at hl 0 rfl) ?_
    obtain ⟨hi, h⟩ := ckb_some h
    refine Xa_41 hx hb hK hP hi d_G_enter_31 ?_
    refine lv_istore (lv' := [(4, .int (ga s2 28 ((ga s2 25 (x1).toNatClampNeg)).toNatClampNeg)), (3, .int (ga s2 25 (x1).toNatClampNeg)), (0, .ref (a 35)), (1, .int x1), (2, .ref (a 34))]) hx hb d_G_enter_32 hl (by decide) rfl (fun ls hl => ?_)
    refine lv_iconst (v := (0 : Int32)) hx hb d_G_enter_34 (by decide) ?_
    have L37 : ∀ (n : Nat) (σ : St) (x4 : Int32) (x5 : Int32) (H : Heap) (locs : List Loc) (ls : Array Slot), va_P D vCl (wX true ca a σ ++ tl) H → va_D A (wX true ca a σ ++ tl) → va_S A s.heap H locs → lv_has ls 6 [(2, .ref (a 34)), (4, .int x4), (5, .int x5)] → f_G_enter_37 N n σ x4 x5 = some ((), σ') → W p l e R s m args below meth c H locs 0 0 (MQ below (qb_QV D vCl (tyX ca) (wX true ca a σ' ++ tl) A) args s 0 0 A) (F0 m 37 ls []) := by
      intro n
      induction n with
      | zero => intro σ x4 x5 H locs ls hP hD hS hl h; cases h
      | succ n ih37 =>
          intro σ x4 x5 H locs ls hP hD hS hl h
          obtain ⟨K37, eK37⟩ : ∃ K, K = f_G_enter_37 N n := ⟨_, rfl⟩
          rw [← eK37] at ih37
          replace h : f_G_enter_37_b N K37 σ x4 x5 = some ((), σ') := by rw [eK37]; exact h
          unfold f_G_enter_37_b at h
          refine lv_iload hx hb d_G_enter_37 (lv_at hl 2 rfl) ?_
          refine lv_aload_n hx hb d_G_enter_39 rfl (lv_at hl 0 rfl) ?_
          refine Xn_34 hx hb hK hP d_G_enter_40 ?_
          refine lv_icmp_ge (tgt := 66) hx hb d_G_enter_41 (by decide) (fun hc => ?_) (fun hc => ?_)
          · replace h := it_t h hc
            exact rf_V (w := (fun z => wX true ca a z ++ tl)) h hx hb hr hlk hK hP hD hS d_G_enter_66
          · replace h := it_f h hc
            refine lv_aload_n hx hb d_G_enter_44 rfl (lv_at hl 0 rfl) ?_
            refine lv_iload hx hb d_G_enter_45 (lv_at hl 2 rfl) ?_
            refine lv_iload hx hb d_G_enter_47 (lv_at hl 1 rfl) ?_
            refine lv_iconst (v := (4 : Int32)) hx hb d_G_enter_49 (by decide) ?_
            refine lv_iload hx hb d_G_enter_50 (lv_at hl 2 rfl) ?_
            refine lv_imul hx hb d_G_enter_52 ?_
            refine lv_ishr hx hb d_G_enter_53 ?_
            refine lv_bipush (v := (15 : Int32)) hx hb d_G_enter_54 (by decide) ?_
            refine lv_iand hx hb d_G_enter_56 ?_
            refine lv_iconst (v := (1 : Int32)) hx hb d_G_enter_57 (by decide) ?_
            refine lv_isub hx hb d_G_enter_58 ?_
            obtain ⟨hi, h⟩ := ckb_some h
            obtain ⟨s3, es3, h⟩ := nm_some h
            refine Xs_34 es3 hx hb hK hP hD hS hi d_G_enter_59 (fun H locs hP hD hS => ?_)
            refine lv_iinc (v := (x5 + 1)) (lv' := [(5, .int (x5 + 1)), (2, .ref (a 34)), (4, .int x4)]) hx hb d_G_enter_60 hl (k := 2) rfl rfl (by decide) rfl (fun ls hl => ?_)
            refine lv_goto (tgt := 37) hx hb d_G_enter_63 (by decide) ?_
            exact ih37 s3 x4 (x5 + 1) H locs ls hP hD hS (lv_sub hl [1, 2, 0] rfl) h
    refine lv_istore (lv' := [(5, .int (0 : Int32)), (4, .int (ga s2 28 ((ga s2 25 (x1).toNatClampNeg)).toNatClampNeg)), (3, .int (ga s2 25 (x1).toNatClampNeg)), (0, .ref (a 35)), (1, .int x1), (2, .ref (a 34))]) hx hb d_G_enter_35 hl (by decide) rfl (fun ls hl => ?_)
    exact L37 N s2 (ga s2 28 ((ga s2 25 (x1).toNatClampNeg)).toNatClampNeg) (0 : Int32) H locs ls hP hD hS (lv_sub hl [5, 1, 0] rfl) h
  · replace h := it_t h hc
    refine lv_iconst (v := (0 : Int32)) hx hb d_G_enter_22 (by decide) ?_
    refine lv_goto (tgt := 32) hx hb d_G_enter_23 (by decide) ?_
    refine lv_istore (lv' := [(4, .int (0 : Int32)), (3, .int (ga s2 25 (x1).toNatClampNeg)), (0, .ref (a 35)), (1, .int x1), (2, .ref (a 34))]) hx hb d_G_enter_32 hl (by decide) rfl (fun ls hl => ?_)
    refine lv_iconst (v := (0 : Int32)) hx hb d_G_enter_34 (by decide) ?_
    have L37 : ∀ (n : Nat) (σ : St) (x4 : Int32) (x5 : Int32) (H : Heap) (locs : List Loc) (ls : Array Slot), va_P D vCl (wX true ca a σ ++ tl) H → va_D A (wX true ca a σ ++ tl) → va_S A s.heap H locs → lv_has ls 6 [(2, .ref (a 34)), (4, .int x4), (5, .int x5)] → f_G_enter_37 N n σ x4 x5 = some ((), σ') → W p l e R s m args below meth c H locs 0 0 (MQ below (qb_QV D vCl (tyX ca) (wX true ca a σ' ++ tl) A) args s 0 0 A) (F0 m 37 ls []) := by
      intro n
      induction n with
      | zero => intro σ x4 x5 H locs ls hP hD hS hl h; cases h
      | succ n ih37 =>
          intro σ x4 x5 H locs ls hP hD hS hl h
          obtain ⟨K37, eK37⟩ : ∃ K, K = f_G_enter_37 N n := ⟨_, rfl⟩
          rw [← eK37] at ih37
          replace h : f_G_enter_37_b N K37 σ x4 x5 = some ((), σ') := by rw [eK37]; exact h
          unfold f_G_enter_37_b at h
          refine lv_iload hx hb d_G_enter_37 (lv_at hl 2 rfl) ?_
          refine lv_aload_n hx hb d_G_enter_39 rfl (lv_at hl 0 rfl) ?_
          refine Xn_34 hx hb hK hP d_G_enter_40 ?_
          refine lv_icmp_ge (tgt := 66) hx hb d_G_enter_41 (by decide) (fun hc => ?_) (fun hc => ?_)
          · replace h := it_t h hc
            exact rf_V (w := (fun z => wX true ca a z ++ tl)) h hx hb hr hlk hK hP hD hS d_G_enter_66
          · replace h := it_f h hc
            refine lv_aload_n hx hb d_G_enter_44 rfl (lv_at hl 0 rfl) ?_
            refine lv_iload hx hb d_G_enter_45 (lv_at hl 2 rfl) ?_
            refine lv_iload hx hb d_G_enter_47 (lv_at hl 1 rfl) ?_
            refine lv_iconst (v := (4 : Int32)) hx hb d_G_enter_49 (by decide) ?_
            refine lv_iload hx hb d_G_enter_50 (lv_at hl 2 rfl) ?_
            refine lv_imul hx hb d_G_enter_52 ?_
            refine lv_ishr hx hb d_G_enter_53 ?_
            refine lv_bipush (v := (15 : Int32)) hx hb d_G_enter_54 (by decide) ?_
            refine lv_iand hx hb d_G_enter_56 ?_
            refine lv_iconst (v := (1 : Int32)) hx hb d_G_enter_57 (by decide) ?_
            refine lv_isub hx hb d_G_enter_58 ?_
            obtain ⟨hi, h⟩ := ckb_some h
            obtain ⟨s4, es4, h⟩ := nm_some h
            refine Xs_34 es4 hx hb hK hP hD hS hi d_G_enter_59 (fun H locs hP hD hS => ?_)
            refine lv_iinc (v := (x5 + 1)) (lv' := [(5, .int (x5 + 1)), (2, .ref (a 34)), (4, .int x4)]) hx hb d_G_enter_60 hl (k := 2) rfl rfl (by decide) rfl (fun ls hl => ?_)
            refine lv_goto (tgt := 37) hx hb d_G_enter_63 (by decide) ?_
            exact ih37 s4 x4 (x5 + 1) H locs ls hP hD hS (lv_sub hl [1, 2, 0] rfl) h
    refine lv_istore (lv' := [(5, .int (0 : Int32)), (4, .int (0 : Int32)), (3, .int (ga s2 25 (x1).toNatClampNeg)), (0, .ref (a 35)), (1, .int x1), (2, .ref (a 34))]) hx hb d_G_enter_35 hl (by decide) rfl (fun ls hl => ?_)
    exact L37 N s2 (0 : Int32) (0 : Int32) H locs ls hP hD hS (lv_sub hl [5, 1, 0] rfl) h
set_option maxRecDepth 100000 in
set_option maxHeartbeats 4000000 in
theorem c_A_isFull (l : Launch) (D : va_G) (ca : Nat → ClassId) (g : Bool) (a : Nat → Nat) (tl : va_W) (N : Nat) (σ σ' : St) (r : Int32) (h : f_A_isFull N σ = some (r, σ')) : CtI l y_A_isFull ws_A_isFull rm_A_isFull 0 0 D vCl (tyX ca) nwX [.ref (a 26)] (wX g ca a σ ++ tl) (wX g ca a σ' ++ tl) r := by
  refine en_Z (ws' := BIG) (by decide +kernel) rfl (Nat.le_of_ble_eq_true rfl) ?_
  intro p e s m below meth c A ls R args H locs hR hx hb hr hlk hml hown hB hK hN hP hD hA hS hl
  have hl : lv_has ls 1 [(0, .ref (a 26))] := hl
  unfold f_A_isFull at h
  refine lv_aload_n hx hb d_A_isFull_0 rfl (lv_at hl 0 rfl) ?_
  refine Xg_26_2 hx hb hB hown (hB _ m_288) hK hP d_A_isFull_1 ?_
  refine lv_sipush (v := (200 : Int32)) hx hb d_A_isFull_4 (by decide) ?_
  refine lv_icmp_lt (tgt := 14) hx hb d_A_isFull_7 (by decide) (fun hc => ?_) (fun hc => ?_)
  · replace h := it_t h hc
    refine lv_iconst (v := (0 : Int32)) hx hb d_A_isFull_14 (by decide) ?_
    exact rf_Z (w := (fun z => wX g ca a z ++ tl)) h hx hb hr hlk hK hP hD hS rfl d_A_isFull_15
  · replace h := it_f h hc
    refine lv_iconst (v := (1 : Int32)) hx hb d_A_isFull_10 (by decide) ?_
    refine lv_goto (tgt := 15) hx hb d_A_isFull_11 (by decide) ?_
    exact rf_Z (w := (fun z => wX g ca a z ++ tl)) h hx hb hr hlk hK hP hD hS rfl d_A_isFull_15
set_option maxRecDepth 100000 in
set_option maxHeartbeats 4000000 in
theorem c_A_startRow (l : Launch) (D : va_G) (ca : Nat → ClassId) (g : Bool) (a : Nat → Nat) (tl : va_W) (N : Nat) (σ σ' : St) (h : f_A_startRow N σ = some ((), σ')) : CtV l y_A_startRow ws_A_startRow rm_A_startRow 0 0 D vCl (tyX ca) nwX [.ref (a 26)] (wX g ca a σ ++ tl) (wX g ca a σ' ++ tl) := by
  refine en_V (ws' := BIG) (by decide +kernel) rfl (Nat.le_of_ble_eq_true rfl) ?_
  intro p e s m below meth c A ls R args H locs hR hx hb hr hlk hml hown hB hK hN hP hD hA hS hl
  have hl : lv_has ls 1 [(0, .ref (a 26))] := hl
  unfold f_A_startRow at h
  refine lv_aload_n hx hb d_A_startRow_0 rfl (lv_at hl 0 rfl) ?_
  refine Xg_26_5 hx hb hB hown (hB _ m_291) hK hP d_A_startRow_1 ?_
  refine lv_aload_n hx hb d_A_startRow_4 rfl (lv_at hl 0 rfl) ?_
  refine Xg_26_2 hx hb hB hown (hB _ m_288) hK hP d_A_startRow_5 ?_
  refine lv_iconst (v := (0 : Int32)) hx hb d_A_startRow_8 (by decide) ?_
  obtain ⟨hi, h⟩ := ckb_some h
  obtain ⟨s1, es1, h⟩ := nm_some h
  refine Xs_28 es1 hx hb hK hP hD hS hi d_A_startRow_9 (fun H locs hP hD hS => ?_)
  exact rf_V (w := (fun z => wX g ca a z ++ tl)) h hx hb hr hlk hK hP hD hS d_A_startRow_10
set_option maxRecDepth 100000 in
set_option maxHeartbeats 4000000 in
theorem c_A_endRow (l : Launch) (D : va_G) (ca : Nat → ClassId) (g : Bool) (a : Nat → Nat) (tl : va_W) (N : Nat) (σ σ' : St) (h : f_A_endRow N σ = some ((), σ')) : CtV l y_A_endRow ws_A_endRow rm_A_endRow 0 0 D vCl (tyX ca) nwX [.ref (a 26)] (wX g ca a σ ++ tl) (wX g ca a σ' ++ tl) := by
  refine en_V (ws' := BIG) (by decide +kernel) rfl (Nat.le_of_ble_eq_true rfl) ?_
  intro p e s m below meth c A ls R args H locs hR hx hb hr hlk hml hown hB hK hN hP hD hA hS hl
  have hl : lv_has ls 1 [(0, .ref (a 26))] := hl
  unfold f_A_endRow at h
  refine lv_aload_n hx hb d_A_endRow_0 rfl (lv_at hl 0 rfl) ?_
  refine lv_dup hx hb d_A_endRow_1 rfl ?_
  refine Xg_26_2 hx hb hB hown (hB _ m_288) hK hP d_A_endRow_2 ?_
  refine lv_iconst (v := (1 : Int32)) hx hb d_A_endRow_5 (by decide) ?_
  refine lv_iadd hx hb d_A_endRow_6 ?_
  obtain ⟨s1, es1, h⟩ := nm_some h
  refine Xp_26_2 es1 hx hb hB hown (hB _ m_288) hK hP hD hS d_A_endRow_7 (fun H locs hP hD hS => ?_)
  exact rf_V (w := (fun z => wX g ca a z ++ tl)) h hx hb hr hlk hK hP hD hS d_A_endRow_10
set_option maxRecDepth 100000 in
set_option maxHeartbeats 4000000 in
theorem c_V_lookUp (l : Launch) (D : va_G) (ca : Nat → ClassId) (g : Bool) (a : Nat → Nat) (tl : va_W) (N : Nat) (σ σ' : St) (x1 : Int32) (r : Int32) (h : f_V_lookUp N σ x1 = some (r, σ')) : CtI l y_V_lookUp ws_V_lookUp rm_V_lookUp 0 0 D vCl (tyX ca) nwX [.ref (a 33), .int x1] (wX g ca a σ ++ tl) (wX g ca a σ' ++ tl) r := by
  refine en_I (ws' := BIG) (by decide +kernel) rfl (Nat.le_of_ble_eq_true rfl) ?_
  intro p e s m below meth c A ls R args H locs hR hx hb hr hlk hml hown hB hK hN hP hD hA hS hl
  have hl : lv_has ls 6 [(0, .ref (a 33)), (1, .int x1)] := hl
  unfold f_V_lookUp at h
  refine lv_iload_n hx hb d_V_lookUp_0 rfl (lv_at hl 1 rfl) ?_
  refine lv_iconst (v := (4 : Int32)) hx hb d_V_lookUp_1 (by decide) ?_
  refine lv_idiv hx hb d_V_lookUp_2 (by decide) ?_
  refine lv_istore_n (lv' := [(2, .int (x1 / (4 : Int32))), (0, .ref (a 33)), (1, .int x1)]) hx hb d_V_lookUp_3 rfl hl (by decide) rfl (fun ls hl => ?_)
  refine lv_iload_n hx hb d_V_lookUp_4 rfl (lv_at hl 2 rfl) ?_
  refine lv_iconst (v := (4 : Int32)) hx hb d_V_lookUp_5 (by decide) ?_
  refine lv_irem hx hb d_V_lookUp_6 (by decide) ?_
  refine lv_istore_n (lv' := [(3, .int (x1 - x1 / (4 : Int32) * (4 : Int32))), (2, .int (x1 / (4 : Int32))), (0, .ref (a 33)), (1, .int x1)]) hx hb d_V_lookUp_7 rfl hl (by decide) rfl (fun ls hl => ?_)
  refine lv_aload_n hx hb d_V_lookUp_8 rfl (lv_at hl 2 rfl) ?_
  refine Xg_33_3 hx hb hB hown (hB _ m_342) hK hP d_V_lookUp_9 ?_
  refine lv_iload_n hx hb d_V_lookUp_12 rfl (lv_at hl 1 rfl) ?_
  obtain ⟨hi, h⟩ := ckb_some h
  refine Xa_34 hx hb hK hP hi d_V_lookUp_13 ?_
  refine lv_istore (lv' := [(4, .int (ga σ 23 ((x1 / (4 : Int32))).toNatClampNeg)), (3, .int (x1 - x1 / (4 : Int32) * (4 : Int32))), (2, .int (x1 / (4 : Int32))), (0, .ref (a 33)), (1, .int x1)]) hx hb d_V_lookUp_14 hl (by decide) rfl (fun ls hl => ?_)
  refine lv_iload hx hb d_V_lookUp_16 (lv_at hl 0 rfl) ?_
  refine lv_iconst (v := (-1 : Int32)) hx hb d_V_lookUp_18 (by decide) ?_
  refine lv_icmp_ne (tgt := 24) hx hb d_V_lookUp_19 (by decide) (fun hc => ?_) (fun hc => ?_)
  · replace h := it_f h hc
    refine lv_aload_n hx hb d_V_lookUp_24 rfl (lv_at hl 3 rfl) ?_
    refine Xg_33_2 hx hb hB hown (hB _ m_341) hK hP d_V_lookUp_25 ?_
    refine Xg_18_1 hx hb hB hown (hB _ m_202) hK hP d_V_lookUp_28 ?_
    refine lv_iload_n hx hb d_V_lookUp_31 rfl (lv_at hl 2 rfl) ?_
    obtain ⟨hi, h⟩ := ckb_some h
    refine Xa_19 hx hb hK hP hi d_V_lookUp_32 ?_
    refine lv_bipush (v := (8 : Int32)) hx hb d_V_lookUp_33 (by decide) ?_
    refine lv_imul hx hb d_V_lookUp_35 ?_
    refine lv_iload hx hb d_V_lookUp_36 (lv_at hl 0 rfl) ?_
    refine lv_iadd hx hb d_V_lookUp_38 ?_
    refine lv_istore (lv' := [(5, .int (((ga σ 13 ((x1 / (4 : Int32))).toNatClampNeg) * (8 : Int32)) + (ga σ 23 ((x1 / (4 : Int32))).toNatClampNeg))), (4, .int (ga σ 23 ((x1 / (4 : Int32))).toNatClampNeg)), (3, .int (x1 - x1 / (4 : Int32) * (4 : Int32))), (2, .int (x1 / (4 : Int32))), (0, .ref (a 33)), (1, .int x1)]) hx hb d_V_lookUp_39 hl (by decide) rfl (fun ls hl => ?_)
    refine lv_aload_n hx hb d_V_lookUp_41 rfl (lv_at hl 4 rfl) ?_
    refine Xg_33_0 hx hb hB hown (hB _ m_339) hK hP d_V_lookUp_42 ?_
    refine Xg_1_4 hx hb hB hown (hB _ m_111) hK hP d_V_lookUp_45 ?_
    refine lv_iload hx hb d_V_lookUp_48 (lv_at hl 0 rfl) ?_
    obtain ⟨hi, h⟩ := ckb_some h
    refine Xa_5 hx hb hK hP hi d_V_lookUp_50 ?_
    refine lv_iload_n hx hb d_V_lookUp_51 rfl (lv_at hl 2 rfl) ?_
    refine lv_ishr hx hb d_V_lookUp_52 ?_
    refine lv_iconst (v := (1 : Int32)) hx hb d_V_lookUp_53 (by decide) ?_
    refine lv_iand hx hb d_V_lookUp_54 ?_
    refine lv_if_eq (tgt := 60) hx hb d_V_lookUp_55 (by decide) (fun hc => ?_) (fun hc => ?_)
    · replace h := it_t h hc
      refine lv_aload_n hx hb d_V_lookUp_60 rfl (lv_at hl 4 rfl) ?_
      refine lv_aload_n hx hb d_V_lookUp_61 rfl (lv_at hl 4 rfl) ?_
      refine Xg_33_0 hx hb hB hown (hB _ m_339) hK hP d_V_lookUp_62 ?_
      refine Xg_1_3 hx hb hB hown (hB _ m_109) hK hP d_V_lookUp_65 ?_
      refine lv_iload hx hb d_V_lookUp_68 (lv_at hl 0 rfl) ?_
      refine lv_iconst (v := (4 : Int32)) hx hb d_V_lookUp_70 (by decide) ?_
      refine lv_imul hx hb d_V_lookUp_71 ?_
      refine lv_iload_n hx hb d_V_lookUp_72 rfl (lv_at hl 2 rfl) ?_
      refine lv_iadd hx hb d_V_lookUp_73 ?_
      obtain ⟨hi, h⟩ := ckb_some h
      refine Xa_4 hx hb hK hP hi d_V_lookUp_74 ?_
      obtain ⟨s1, es1, h⟩ := nm_some h
      refine Xp_33_5 es1 hx hb hB hown (hB _ m_346) hK hP hD hS d_V_lookUp_75 (fun H locs hP hD hS => ?_)
      refine lv_iconst (v := (1 : Int32)) hx hb d_V_lookUp_78 (by decide) ?_
      exact rf_I (w := (fun z => wX g ca a z ++ tl)) h hx hb hr hlk hK hP hD hS d_V_lookUp_79
    · replace h := it_f h hc
      refine lv_iconst (v := (0 : Int32)) hx hb d_V_lookUp_58 (by decide) ?_
      exact rf_I (w := (fun z => wX g ca a z ++ tl)) h hx hb hr hlk hK hP hD hS d_V_lookUp_59
  · replace h := it_t h hc
    refine lv_iconst (v := (0 : Int32)) hx hb d_V_lookUp_22 (by decide) ?_
    exact rf_I (w := (fun z => wX g ca a z ++ tl)) h hx hb hr hlk hK hP hD hS d_V_lookUp_23
set_option maxRecDepth 100000 in
set_option maxHeartbeats 4000000 in
theorem c_G_workOut (l : Launch) (D : va_G) (ca : Nat → ClassId) (a : Nat → Nat) (tl : va_W) (N : Nat) (σ σ' : St) (x1 : Int32) (r : Int32) (h : f_G_workOut N σ x1 = some (r, σ')) : CtI l y_G_workOut ws_G_workOut rm_G_workOut 0 0 D vCl (tyX ca) nwX [.ref (a 35), .int x1] (wX true ca a σ ++ tl) (wX true ca a σ' ++ tl) r := by
  refine en_I (ws' := BIG) (by decide +kernel) rfl (Nat.le_of_ble_eq_true rfl) ?_
  intro p e s m below meth c A ls R args H locs hR hx hb hr hlk hml hown hB hK hN hP hD hA hS hl
  have hl : lv_has ls 12 [(0, .ref (a 35)), (1, .int x1)] := hl
  unfold f_G_workOut at h
  refine lv_aload_n hx hb d_G_workOut_0 rfl (lv_at hl 0 rfl) ?_
  refine Xg_35_0 hx hb hB hown (hB _ m_616) hK hP d_G_workOut_1 ?_
  refine Xg_6_10 hx hb hB hown (hB _ m_157) hK hP d_G_workOut_4 ?_
  refine lv_iload_n hx hb d_G_workOut_7 rfl (lv_at hl 1 rfl) ?_
  obtain ⟨hi, h⟩ := ckb_some h
  refine Xa_15 hx hb hK hP hi d_G_workOut_8 ?_
  refine lv_istore_n (lv' := [(2, .int (ga σ 10 (x1).toNatClampNeg)), (0, .ref (a 35)), (1, .int x1)]) hx hb d_G_workOut_9 rfl hl (by decide) rfl (fun ls hl => ?_)
  refine lv_iload_n hx hb d_G_workOut_10 rfl (lv_at hl 0 rfl) ?_
  have L24 : ∀ (σ : St) (x1 : Int32) (x2 : Int32) (t0 : Int32) (H : Heap) (locs : List Loc) (ls : Array Slot), va_P D vCl (wX true ca a σ ++ tl) H → va_D A (wX true ca a σ ++ tl) → va_S A s.heap H locs → lv_has ls 12 [(0, .ref (a 35)), (1, .int x1), (2, .int x2)] → f_G_workOut_24 N σ x1 x2 t0 = some (r, σ') → W p l e R s m args below meth c H locs 0 0 (MQ below (qb_QI D vCl (tyX ca) (wX true ca a σ' ++ tl) A r) args s 0 0 A) (F0 m 24 ls [.int t0]) := by
    intro σ x1 x2 t0 H locs ls hP hD hS hl h
    unfold f_G_workOut_24 at h
    refine lv_istore_n (lv' := [(3, .int t0), (0, .ref (a 35)), (1, .int x1), (2, .int x2)]) hx hb d_G_workOut_24 rfl hl (by decide) rfl (fun ls hl => ?_)
    refine lv_iload_n hx hb d_G_workOut_25 rfl (lv_at hl 3 rfl) ?_
    refine lv_iconst (v := (2 : Int32)) hx hb d_G_workOut_26 (by decide) ?_
    have L40 : ∀ (σ : St) (x1 : Int32) (x2 : Int32) (x3 : Int32) (t0 : Int32) (H : Heap) (locs : List Loc) (ls : Array Slot), va_P D vCl (wX true ca a σ ++ tl) H → va_D A (wX true ca a σ ++ tl) → va_S A s.heap H locs → lv_has ls 12 [(0, .ref (a 35)), (1, .int x1), (2, .int x2), (3, .int x3)] → f_G_workOut_40 N σ x1 x2 x3 t0 = some (r, σ') → W p l e R s m args below meth c H locs 0 0 (MQ below (qb_QI D vCl (tyX ca) (wX true ca a σ' ++ tl) A r) args s 0 0 A) (F0 m 40 ls [.int t0]) := by
      intro σ x1 x2 x3 t0 H locs ls hP hD hS hl h
      unfold f_G_workOut_40 at h
      refine lv_istore (lv' := [(4, .int t0), (0, .ref (a 35)), (1, .int x1), (2, .int x2), (3, .int x3)]) hx hb d_G_workOut_40 hl (by decide) rfl (fun ls hl => ?_)
      refine lv_iconst (v := (0 : Int32)) hx hb d_G_workOut_42 (by decide) ?_
      refine lv_istore (lv' := [(5, .int (0 : Int32)), (4, .int t0), (0, .ref (a 35)), (1, .int x1), (2, .int x2), (3, .int x3)]) hx hb d_G_workOut_43 hl (by decide) rfl (fun ls hl => ?_)
      refine lv_lconst (v := (0 : Int64)) hx hb d_G_workOut_45 (by decide) ?_
      refine lv_lstore (lv' := [(6, .long (0 : Int64)), (5, .int (0 : Int32)), (4, .int t0), (0, .ref (a 35)), (1, .int x1), (2, .int x2), (3, .int x3)]) hx hb d_G_workOut_46 hl (by decide) rfl (fun ls hl => ?_)
      refine lv_aload_n hx hb d_G_workOut_48 rfl (lv_at hl 3 rfl) ?_
      refine Xg_35_5 hx hb hB hown (hB _ m_622) hK hP d_G_workOut_49 ?_
      refine lv_aload_n hx hb d_G_workOut_52 rfl (lv_at hl 3 rfl) ?_
      refine Xg_35_14 hx hb hB hown (hB _ m_632) hK hP d_G_workOut_53 ?_
      obtain ⟨hi, h⟩ := ckb_some h
      refine Xa_38 hx hb hK hP hi d_G_workOut_56 ?_
      refine lv_istore (lv' := [(8, .int (ga σ 25 ((gi σ 21)).toNatClampNeg)), (6, .long (0 : Int64)), (5, .int (0 : Int32)), (4, .int t0), (0, .ref (a 35)), (1, .int x1), (2, .int x2), (3, .int x3)]) hx hb d_G_workOut_57 hl (by decide) rfl (fun ls hl => ?_)
      refine lv_iconst (v := (0 : Int32)) hx hb d_G_workOut_59 (by decide) ?_
      have L62 : ∀ (n : Nat) (σ : St) (x1 : Int32) (x2 : Int32) (x3 : Int32) (x4 : Int32) (x5 : Int32) (x6 : Int64) (x8 : Int32) (x9 : Int32) (H : Heap) (locs : List Loc) (ls : Array Slot), va_P D vCl (wX true ca a σ ++ tl) H → va_D A (wX true ca a σ ++ tl) → va_S A s.heap H locs → lv_has ls 12 [(0, .ref (a 35)), (1, .int x1), (2, .int x2), (3, .int x3), (4, .int x4), (5, .int x5), (6, .long x6), (8, .int x8), (9, .int x9)] → f_G_workOut_62 N n σ x1 x2 x3 x4 x5 x6 x8 x9 = some (r, σ') → W p l e R s m args below meth c H locs 0 0 (MQ below (qb_QI D vCl (tyX ca) (wX true ca a σ' ++ tl) A r) args s 0 0 A) (F0 m 62 ls []) := by
        intro n
        induction n with
        | zero => intro σ x1 x2 x3 x4 x5 x6 x8 x9 H locs ls hP hD hS hl h; cases h
        | succ n ih62 =>
            intro σ x1 x2 x3 x4 x5 x6 x8 x9 H locs ls hP hD hS hl h
            obtain ⟨K62, eK62⟩ : ∃ K, K = f_G_workOut_62 N n := ⟨_, rfl⟩
            rw [← eK62] at ih62
            replace h : f_G_workOut_62_b N K62 σ x1 x2 x3 x4 x5 x6 x8 x9 = some (r, σ') := by rw [eK62]; exact h
            unfold f_G_workOut_62_b at h
            refine lv_iload hx hb d_G_workOut_62 (lv_at hl 8 rfl) ?_
            refine lv_aload_n hx hb d_G_workOut_64 rfl (lv_at hl 0 rfl) ?_
            refine Xg_35_2 hx hb hB hown (hB _ m_619) hK hP d_G_workOut_65 ?_
            have L200 : ∀ (σ : St) (x1 : Int32) (x2 : Int32) (x3 : Int32) (x5 : Int32) (x6 : Int64) (H : Heap) (locs : List Loc) (ls : Array Slot), va_P D vCl (wX true ca a σ ++ tl) H → va_D A (wX true ca a σ ++ tl) → va_S A s.heap H locs → lv_has ls 12 [(0, .ref (a 35)), (1, .int x1), (2, .int x2), (3, .int x3), (5, .int x5), (6, .long x6)] → f_G_workOut_200 N σ x1 x2 x3 x5 x6 = some (r, σ') → W p l e R s m args below meth c H locs 0 0 (MQ below (qb_QI D vCl (tyX ca) (wX true ca a σ' ++ tl) A r) args s 0 0 A) (F0 m 200 ls []) := by
              intro σ x1 x2 x3 x5 x6 H locs ls hP hD hS hl h
              unfold f_G_workOut_200 at h
              refine lv_iload_n hx hb d_G_workOut_200 rfl (lv_at hl 2 rfl) ?_
              refine lv_iconst (v := (5 : Int32)) hx hb d_G_workOut_201 (by decide) ?_
              have L218 : ∀ (σ : St) (x1 : Int32) (x3 : Int32) (x5 : Int32) (x6 : Int64) (H : Heap) (locs : List Loc) (ls : Array Slot), va_P D vCl (wX true ca a σ ++ tl) H → va_D A (wX true ca a σ ++ tl) → va_S A s.heap H locs → lv_has ls 12 [(0, .ref (a 35)), (1, .int x1), (3, .int x3), (5, .int x5), (6, .long x6)] → f_G_workOut_218 N σ x1 x3 x5 x6 = some (r, σ') → W p l e R s m args below meth c H locs 0 0 (MQ below (qb_QI D vCl (tyX ca) (wX true ca a σ' ++ tl) A r) args s 0 0 A) (F0 m 218 ls []) := by
                intro σ x1 x3 x5 x6 H locs ls hP hD hS hl h
                unfold f_G_workOut_218 at h
                refine lv_aload_n hx hb d_G_workOut_218 rfl (lv_at hl 0 rfl) ?_
                refine Xg_35_11 hx hb hB hown (hB _ m_628) hK hP d_G_workOut_219 ?_
                refine lv_iload_n hx hb d_G_workOut_222 rfl (lv_at hl 1 rfl) ?_
                refine lv_iload_n hx hb d_G_workOut_223 rfl (lv_at hl 2 rfl) ?_
                have L235 : ∀ (σ : St) (x3 : Int32) (x5 : Int32) (t0 : Int64) (t1 : Int32) (H : Heap) (locs : List Loc) (ls : Array Slot), va_P D vCl (wX true ca a σ ++ tl) H → va_D A (wX true ca a σ ++ tl) → va_S A s.heap H locs → lv_has ls 12 [(3, .int x3), (5, .int x5)] → f_G_workOut_235 N σ x3 x5 t0 t1 = some (r, σ') → W p l e R s m args below meth c H locs 0 0 (MQ below (qb_QI D vCl (tyX ca) (wX true ca a σ' ++ tl) A r) args s 0 0 A) (F0 m 235 ls [.long t0, .int t1, .ref (a 44)]) := by
                  intro σ x3 x5 t0 t1 H locs ls hP hD hS hl h
                  unfold f_G_workOut_235 at h
                  obtain ⟨hi, h⟩ := ckb_some h
                  obtain ⟨s1, es1, h⟩ := nm_some h
                  refine Xs_44 es1 hx hb hK hP hD hS hi d_G_workOut_235 (fun H locs hP hD hS => ?_)
                  refine lv_iload_n hx hb d_G_workOut_236 rfl (lv_at hl 0 rfl) ?_
                  refine lv_if_ne (tgt := 245) hx hb d_G_workOut_237 (by decide) (fun hc => ?_) (fun hc => ?_)
                  · replace h := it_f h hc
                    refine lv_iconst (v := (1 : Int32)) hx hb d_G_workOut_245 (by decide) ?_
                    refine lv_goto (tgt := 250) hx hb d_G_workOut_246 (by decide) ?_
                    exact rf_I (w := (fun z => wX true ca a z ++ tl)) h hx hb hr hlk hK hP hD hS d_G_workOut_250
                  · replace h := it_t h hc
                    refine lv_iload hx hb d_G_workOut_240 (lv_at hl 1 rfl) ?_
                    refine lv_if_eq (tgt := 249) hx hb d_G_workOut_242 (by decide) (fun hc => ?_) (fun hc => ?_)
                    · replace h := it_t h hc
                      refine lv_iconst (v := (0 : Int32)) hx hb d_G_workOut_249 (by decide) ?_
                      exact rf_I (w := (fun z => wX true ca a z ++ tl)) h hx hb hr hlk hK hP hD hS d_G_workOut_250
                    · replace h := it_f h hc
                      refine lv_iconst (v := (1 : Int32)) hx hb d_G_workOut_245 (by decide) ?_
                      refine lv_goto (tgt := 250) hx hb d_G_workOut_246 (by decide) ?_
                      exact rf_I (w := (fun z => wX true ca a z ++ tl)) h hx hb hr hlk hK hP hD hS d_G_workOut_250
                refine lv_if_eq (tgt := 233) hx hb d_G_workOut_224 (by decide) (fun hc => ?_) (fun hc => ?_)
                · replace h := it_t h hc
                  refine lv_lload hx hb d_G_workOut_233 (lv_at hl 4 rfl) ?_
                  exact L235 σ x3 x5 x6 x1 H locs ls hP hD hS (lv_sub hl [2, 3] rfl) h
                · replace h := it_f h hc
                  refine lv_iload hx hb d_G_workOut_227 (lv_at hl 3 rfl) ?_
                  refine lv_i2l hx hb d_G_workOut_229 rfl ?_
                  refine lv_goto (tgt := 235) hx hb d_G_workOut_230 (by decide) ?_
                  exact L235 σ x3 x5 (x5).toInt64 x1 H locs ls hP hD hS (lv_sub hl [2, 3] rfl) h
              refine lv_icmp_ne (tgt := 218) hx hb d_G_workOut_202 (by decide) (fun hc => ?_) (fun hc => ?_)
              · replace h := it_f h hc
                exact L218 σ x1 x3 x5 x6 H locs ls hP hD hS (lv_sub hl [0, 1, 3, 4, 5] rfl) h
              · replace h := it_t h hc
                refine lv_iload hx hb d_G_workOut_205 (lv_at hl 4 rfl) ?_
                refine lv_if_eq (tgt := 218) hx hb d_G_workOut_207 (by decide) (fun hc => ?_) (fun hc => ?_)
                · replace h := it_t h hc
                  exact L218 σ x1 x3 x5 x6 H locs ls hP hD hS (lv_sub hl [0, 1, 3, 4, 5] rfl) h
                · replace h := it_f h hc
                  refine lv_lload hx hb d_G_workOut_210 (lv_at hl 5 rfl) ?_
                  refine lv_iload hx hb d_G_workOut_212 (lv_at hl 4 rfl) ?_
                  refine lv_i2l hx hb d_G_workOut_214 rfl ?_
                  obtain ⟨hi, h⟩ := ckzl_some h
                  refine lv_ldiv hx hb d_G_workOut_215 hi ?_
                  refine lv_lstore (lv' := [(6, .long (x6 / (x5).toInt64)), (0, .ref (a 35)), (1, .int x1), (2, .int x2), (3, .int x3), (5, .int x5)]) hx hb d_G_workOut_216 hl (by decide) rfl (fun ls hl => ?_)
                  exact L218 σ x1 x3 x5 (x6 / (x5).toInt64) H locs ls hP hD hS (lv_sub hl [1, 2, 4, 5, 0] rfl) h
            refine lv_icmp_ge (tgt := 200) hx hb d_G_workOut_68 (by decide) (fun hc => ?_) (fun hc => ?_)
            · replace h := it_t h hc
              exact L200 σ x1 x2 x3 x5 x6 H locs ls hP hD hS (lv_sub hl [0, 1, 2, 3, 5, 6] rfl) h
            · replace h := it_f h hc
              refine lv_iload hx hb d_G_workOut_71 (lv_at hl 7 rfl) ?_
              refine lv_iconst (v := (-1 : Int32)) hx hb d_G_workOut_73 (by decide) ?_
              refine lv_icmp_eq (tgt := 200) hx hb d_G_workOut_74 (by decide) (fun hc => ?_) (fun hc => ?_)
              · replace h := it_t h hc
                exact L200 σ x1 x2 x3 x5 x6 H locs ls hP hD hS (lv_sub hl [0, 1, 2, 3, 5, 6] rfl) h
              · replace h := it_f h hc
                refine lv_aload_n hx hb d_G_workOut_77 rfl (lv_at hl 0 rfl) ?_
                refine Xg_35_10 hx hb hB hown (hB _ m_627) hK hP d_G_workOut_78 ?_
                refine lv_iload hx hb d_G_workOut_81 (lv_at hl 7 rfl) ?_
                obtain ⟨hi, h⟩ := ckb_some h
                refine Xa_43 hx hb hK hP hi d_G_workOut_83 ?_
                refine lv_iload_n hx hb d_G_workOut_84 rfl (lv_at hl 1 rfl) ?_
                refine lv_ishr hx hb d_G_workOut_85 ?_
                refine lv_iconst (v := (1 : Int32)) hx hb d_G_workOut_86 (by decide) ?_
                refine lv_iand hx hb d_G_workOut_87 ?_
                have L185 : ∀ (σ : St) (x1 : Int32) (x2 : Int32) (x3 : Int32) (x4 : Int32) (x5 : Int32) (x6 : Int64) (x8 : Int32) (x9 : Int32) (H : Heap) (locs : List Loc) (ls : Array Slot), va_P D vCl (wX true ca a σ ++ tl) H → va_D A (wX true ca a σ ++ tl) → va_S A s.heap H locs → lv_has ls 12 [(0, .ref (a 35)), (1, .int x1), (2, .int x2), (3, .int x3), (4, .int x4), (5, .int x5), (6, .long x6), (8, .int x8), (9, .int x9)] → f_G_workOut_185 N K62 σ x1 x2 x3 x4 x5 x6 x8 x9 = some (r, σ') → W p l e R s m args below meth c H locs 0 0 (MQ below (qb_QI D vCl (tyX ca) (wX true ca a σ' ++ tl) A r) args s 0 0 A) (F0 m 185 ls []) := by
                  intro σ x1 x2 x3 x4 x5 x6 x8 x9 H locs ls hP hD hS hl h
                  unfold f_G_workOut_185 at h
                  refine lv_aload_n hx hb d_G_workOut_185 rfl (lv_at hl 0 rfl) ?_
                  refine Xg_35_7 hx hb hB hown (hB _ m_624) hK hP d_G_workOut_186 ?_
                  refine lv_iload hx hb d_G_workOut_189 (lv_at hl 7 rfl) ?_
                  obtain ⟨hi, h⟩ := ckb_some h
                  refine Xa_40 hx hb hK hP hi d_G_workOut_191 ?_
                  refine lv_istore (lv' := [(8, .int (ga σ 27 (x8).toNatClampNeg)), (0, .ref (a 35)), (1, .int x1), (2, .int x2), (3, .int x3), (4, .int x4), (5, .int x5), (6, .long x6), (9, .int x9)]) hx hb d_G_workOut_192 hl (by decide) rfl (fun ls hl => ?_)
                  refine lv_iinc (v := (x9 + 1)) (lv' := [(9, .int (x9 + 1)), (8, .int (ga σ 27 (x8).toNatClampNeg)), (0, .ref (a 35)), (1, .int x1), (2, .int x2), (3, .int x3), (4, .int x4), (5, .int x5), (6, .long x6)]) hx hb d_G_workOut_194 hl (k := 8) rfl rfl (by decide) rfl (fun ls hl => ?_)
                  refine lv_goto (tgt := 62) hx hb d_G_workOut_197 (by decide) ?_
                  exact ih62 σ x1 x2 x3 x4 x5 x6 (ga σ 27 (x8).toNatClampNeg) (x9 + 1) H locs ls hP hD hS (lv_sub hl [2, 3, 4, 5, 6, 7, 8, 1, 0] rfl) h
                refine lv_if_ne (tgt := 185) hx hb d_G_workOut_88 (by decide) (fun hc => ?_) (fun hc => ?_)
                · replace h := it_f h hc
                  exact L185 σ x1 x2 x3 x4 x5 x6 x8 x9 H locs ls hP hD hS (lv_sub hl [0, 1, 2, 3, 4, 5, 6, 7, 8] rfl) h
                · replace h := it_t h hc
                  refine lv_aload_n hx hb d_G_workOut_91 rfl (lv_at hl 0 rfl) ?_
                  refine Xg_35_9 hx hb hB hown (hB _ m_626) hK hP d_G_workOut_92 ?_
                  refine lv_iload hx hb d_G_workOut_95 (lv_at hl 7 rfl) ?_
                  refine lv_bipush (v := (8 : Int32)) hx hb d_G_workOut_97 (by decide) ?_
                  refine lv_imul hx hb d_G_workOut_99 ?_
                  refine lv_iload_n hx hb d_G_workOut_100 rfl (lv_at hl 1 rfl) ?_
                  refine lv_iadd hx hb d_G_workOut_101 ?_
                  obtain ⟨hi, h⟩ := ckb_some h
                  refine Xa_42 hx hb hK hP hi d_G_workOut_102 ?_
                  refine lv_lstore (lv' := [(10, .long (gb σ 4 (((x8 * (8 : Int32)) + x1)).toNatClampNeg)), (0, .ref (a 35)), (1, .int x1), (2, .int x2), (3, .int x3), (4, .int x4), (5, .int x5), (6, .long x6), (8, .int x8), (9, .int x9)]) hx hb d_G_workOut_103 hl (by decide) rfl (fun ls hl => ?_)
                  refine lv_iinc (v := (x5 + 1)) (lv' := [(5, .int (x5 + 1)), (10, .long (gb σ 4 (((x8 * (8 : Int32)) + x1)).toNatClampNeg)), (0, .ref (a 35)), (1, .int x1), (2, .int x2), (3, .int x3), (4, .int x4), (6, .long x6), (8, .int x8), (9, .int x9)]) hx hb d_G_workOut_105 hl (k := 6) rfl rfl (by decide) rfl (fun ls hl => ?_)
                  refine lv_iload hx hb d_G_workOut_108 (lv_at hl 6 rfl) ?_
                  have L159 : ∀ (σ : St) (x1 : Int32) (x2 : Int32) (x3 : Int32) (x4 : Int32) (x5 : Int32) (x6 : Int64) (x8 : Int32) (x9 : Int32) (H : Heap) (locs : List Loc) (ls : Array Slot), va_P D vCl (wX true ca a σ ++ tl) H → va_D A (wX true ca a σ ++ tl) → va_S A s.heap H locs → lv_has ls 12 [(0, .ref (a 35)), (1, .int x1), (2, .int x2), (3, .int x3), (4, .int x4), (5, .int x5), (6, .long x6), (8, .int x8), (9, .int x9)] → f_G_workOut_159 N K62 σ x1 x2 x3 x4 x5 x6 x8 x9 = some (r, σ') → W p l e R s m args below meth c H locs 0 0 (MQ below (qb_QI D vCl (tyX ca) (wX true ca a σ' ++ tl) A r) args s 0 0 A) (F0 m 159 ls []) := by
                    intro σ x1 x2 x3 x4 x5 x6 x8 x9 H locs ls hP hD hS hl h
                    unfold f_G_workOut_159 at h
                    refine lv_iload hx hb d_G_workOut_159 (lv_at hl 4 rfl) ?_
                    refine lv_if_eq (tgt := 185) hx hb d_G_workOut_161 (by decide) (fun hc => ?_) (fun hc => ?_)
                    · replace h := it_t h hc
                      exact L185 σ x1 x2 x3 x4 x5 x6 x8 x9 H locs ls hP hD hS (lv_sub hl [0, 1, 2, 3, 4, 5, 6, 7, 8] rfl) h
                    · replace h := it_f h hc
                      refine lv_lload hx hb d_G_workOut_164 (lv_at hl 6 rfl) ?_
                      refine lv_ldc2 (v := (-1000000000000000 : Int64)) hx hb hown (hB _ m_710) d_G_workOut_166 ?_
                      refine W.lcmp hx hb d_G_workOut_169 ?_
                      refine lv_if_lt (tgt := 182) hx hb d_G_workOut_170 (by decide) (fun hc => ?_) (fun hc => ?_)
                      · replace h := it_t h hc
                        refine lv_bipush (v := (-21 : Int32)) hx hb d_G_workOut_182 (by decide) ?_
                        exact rf_I (w := (fun z => wX true ca a z ++ tl)) h hx hb hr hlk hK hP hD hS d_G_workOut_184
                      · replace h := it_f h hc
                        refine lv_lload hx hb d_G_workOut_173 (lv_at hl 6 rfl) ?_
                        refine lv_ldc2 (v := (1000000000000000 : Int64)) hx hb hown (hB _ m_711) d_G_workOut_175 ?_
                        refine W.lcmp hx hb d_G_workOut_178 ?_
                        refine lv_if_le (tgt := 185) hx hb d_G_workOut_179 (by decide) (fun hc => ?_) (fun hc => ?_)
                        · replace h := it_t h hc
                          exact L185 σ x1 x2 x3 x4 x5 x6 x8 x9 H locs ls hP hD hS (lv_sub hl [0, 1, 2, 3, 4, 5, 6, 7, 8] rfl) h
                        · replace h := it_f h hc
                          refine lv_bipush (v := (-21 : Int32)) hx hb d_G_workOut_182 (by decide) ?_
                          exact rf_I (w := (fun z => wX true ca a z ++ tl)) h hx hb hr hlk hK hP hD hS d_G_workOut_184
                  refine lv_if_eq (tgt := 123) hx hb d_G_workOut_110 (by decide) (fun hc => ?_) (fun hc => ?_)
                  · replace h := it_t h hc
                    refine lv_iload hx hb d_G_workOut_123 (lv_at hl 0 rfl) ?_
                    refine lv_iconst (v := (1 : Int32)) hx hb d_G_workOut_125 (by decide) ?_
                    have L155 : ∀ (σ : St) (x1 : Int32) (x2 : Int32) (x3 : Int32) (x4 : Int32) (x5 : Int32) (x8 : Int32) (x9 : Int32) (x10 : Int64) (H : Heap) (locs : List Loc) (ls : Array Slot), va_P D vCl (wX true ca a σ ++ tl) H → va_D A (wX true ca a σ ++ tl) → va_S A s.heap H locs → lv_has ls 12 [(0, .ref (a 35)), (1, .int x1), (2, .int x2), (3, .int x3), (4, .int x4), (5, .int x5), (8, .int x8), (9, .int x9), (10, .long x10)] → f_G_workOut_155 N K62 σ x1 x2 x3 x4 x5 x8 x9 x10 = some (r, σ') → W p l e R s m args below meth c H locs 0 0 (MQ below (qb_QI D vCl (tyX ca) (wX true ca a σ' ++ tl) A r) args s 0 0 A) (F0 m 155 ls []) := by
                      intro σ x1 x2 x3 x4 x5 x8 x9 x10 H locs ls hP hD hS hl h
                      unfold f_G_workOut_155 at h
                      refine lv_lload hx hb d_G_workOut_155 (lv_at hl 8 rfl) ?_
                      refine lv_lstore (lv' := [(6, .long x10), (0, .ref (a 35)), (1, .int x1), (2, .int x2), (3, .int x3), (4, .int x4), (5, .int x5), (8, .int x8), (9, .int x9), (10, .long x10)]) hx hb d_G_workOut_157 hl (by decide) rfl (fun ls hl => ?_)
                      exact L159 σ x1 x2 x3 x4 x5 x10 x8 x9 H locs ls hP hD hS (lv_sub hl [1, 2, 3, 4, 5, 6, 0, 7, 8] rfl) h
                    refine lv_icmp_eq (tgt := 155) hx hb d_G_workOut_126 (by decide) (fun hc => ?_) (fun hc => ?_)
                    · replace h := it_t h hc
                      exact L155 σ x1 x2 x3 x4 (x5 + 1) x8 x9 (gb σ 4 (((x8 * (8 : Int32)) + x1)).toNatClampNeg) H locs ls hP hD hS (lv_sub hl [2, 3, 4, 5, 6, 0, 8, 9, 1] rfl) h
                    · replace h := it_f h hc
                      refine lv_iload_n hx hb d_G_workOut_129 rfl (lv_at hl 4 rfl) ?_
                      refine lv_iconst (v := (3 : Int32)) hx hb d_G_workOut_130 (by decide) ?_
                      have L142 : ∀ (σ : St) (x1 : Int32) (x2 : Int32) (x3 : Int32) (x4 : Int32) (x5 : Int32) (x6 : Int64) (x8 : Int32) (x9 : Int32) (x10 : Int64) (H : Heap) (locs : List Loc) (ls : Array Slot), va_P D vCl (wX true ca a σ ++ tl) H → va_D A (wX true ca a σ ++ tl) → va_S A s.heap H locs → lv_has ls 12 [(0, .ref (a 35)), (1, .int x1), (2, .int x2), (3, .int x3), (4, .int x4), (5, .int x5), (6, .long x6), (8, .int x8), (9, .int x9), (10, .long x10)] → f_G_workOut_142 N K62 σ x1 x2 x3 x4 x5 x6 x8 x9 x10 = some (r, σ') → W p l e R s m args below meth c H locs 0 0 (MQ below (qb_QI D vCl (tyX ca) (wX true ca a σ' ++ tl) A r) args s 0 0 A) (F0 m 142 ls []) := by
                        intro σ x1 x2 x3 x4 x5 x6 x8 x9 x10 H locs ls hP hD hS hl h
                        unfold f_G_workOut_142 at h
                        refine lv_iload_n hx hb d_G_workOut_142 rfl (lv_at hl 2 rfl) ?_
                        refine lv_iconst (v := (4 : Int32)) hx hb d_G_workOut_143 (by decide) ?_
                        refine lv_icmp_ne (tgt := 159) hx hb d_G_workOut_144 (by decide) (fun hc => ?_) (fun hc => ?_)
                        · replace h := it_f h hc
                          exact L159 σ x1 x2 x3 x4 x5 x6 x8 x9 H locs ls hP hD hS (lv_sub hl [0, 1, 2, 3, 4, 5, 6, 7, 8] rfl) h
                        · replace h := it_t h hc
                          refine lv_lload hx hb d_G_workOut_147 (lv_at hl 9 rfl) ?_
                          refine lv_lload hx hb d_G_workOut_149 (lv_at hl 6 rfl) ?_
                          refine W.lcmp hx hb d_G_workOut_151 ?_
                          refine lv_if_le (tgt := 159) hx hb d_G_workOut_152 (by decide) (fun hc => ?_) (fun hc => ?_)
                          · replace h := it_t h hc
                            exact L159 σ x1 x2 x3 x4 x5 x6 x8 x9 H locs ls hP hD hS (lv_sub hl [0, 1, 2, 3, 4, 5, 6, 7, 8] rfl) h
                          · replace h := it_f h hc
                            exact L155 σ x1 x2 x3 x4 x5 x8 x9 x10 H locs ls hP hD hS (lv_sub hl [0, 1, 2, 3, 4, 5, 7, 8, 9] rfl) h
                      refine lv_icmp_ne (tgt := 142) hx hb d_G_workOut_131 (by decide) (fun hc => ?_) (fun hc => ?_)
                      · replace h := it_f h hc
                        exact L142 σ x1 x2 x3 x4 (x5 + 1) x6 x8 x9 (gb σ 4 (((x8 * (8 : Int32)) + x1)).toNatClampNeg) H locs ls hP hD hS (lv_sub hl [2, 3, 4, 5, 6, 0, 7, 8, 9, 1] rfl) h
                      · replace h := it_t h hc
                        refine lv_lload hx hb d_G_workOut_134 (lv_at hl 1 rfl) ?_
                        refine lv_lload hx hb d_G_workOut_136 (lv_at hl 7 rfl) ?_
                        refine W.lcmp hx hb d_G_workOut_138 ?_
                        refine lv_if_lt (tgt := 155) hx hb d_G_workOut_139 (by decide) (fun hc => ?_) (fun hc => ?_)
                        · replace h := it_t h hc
                          exact L155 σ x1 x2 x3 x4 (x5 + 1) x8 x9 (gb σ 4 (((x8 * (8 : Int32)) + x1)).toNatClampNeg) H locs ls hP hD hS (lv_sub hl [2, 3, 4, 5, 6, 0, 8, 9, 1] rfl) h
                        · replace h := it_f h hc
                          exact L142 σ x1 x2 x3 x4 (x5 + 1) x6 x8 x9 (gb σ 4 (((x8 * (8 : Int32)) + x1)).toNatClampNeg) H locs ls hP hD hS (lv_sub hl [2, 3, 4, 5, 6, 0, 7, 8, 9, 1] rfl) h
                  · replace h := it_f h hc
                    refine lv_lload hx hb d_G_workOut_113 (lv_at hl 7 rfl) ?_
                    refine lv_lload hx hb d_G_workOut_115 (lv_at hl 1 rfl) ?_
                    refine lv_ladd hx hb d_G_workOut_117 ?_
                    refine lv_lstore (lv' := [(6, .long (x6 + (gb σ 4 (((x8 * (8 : Int32)) + x1)).toNatClampNeg))), (5, .int (x5 + 1)), (10, .long (gb σ 4 (((x8 * (8 : Int32)) + x1)).toNatClampNeg)), (0, .ref (a 35)), (1, .int x1), (2, .int x2), (3, .int x3), (4, .int x4), (8, .int x8), (9, .int x9)]) hx hb d_G_workOut_118 hl (by decide) rfl (fun ls hl => ?_)
                    refine lv_goto (tgt := 159) hx hb d_G_workOut_120 (by decide) ?_
                    exact L159 σ x1 x2 x3 x4 (x5 + 1) (x6 + (gb σ 4 (((x8 * (8 : Int32)) + x1)).toNatClampNeg)) x8 x9 H locs ls hP hD hS (lv_sub hl [3, 4, 5, 6, 7, 1, 0, 8, 9] rfl) h
      refine lv_istore (lv' := [(9, .int (0 : Int32)), (8, .int (ga σ 25 ((gi σ 21)).toNatClampNeg)), (6, .long (0 : Int64)), (5, .int (0 : Int32)), (4, .int t0), (0, .ref (a 35)), (1, .int x1), (2, .int x2), (3, .int x3)]) hx hb d_G_workOut_60 hl (by decide) rfl (fun ls hl => ?_)
      exact L62 N σ x1 x2 x3 t0 (0 : Int32) (0 : Int64) (ga σ 25 ((gi σ 21)).toNatClampNeg) (0 : Int32) H locs ls hP hD hS (lv_sub hl [5, 6, 7, 8, 4, 3, 2, 1, 0] rfl) h
    have L35 : ∀ (σ : St) (x1 : Int32) (x2 : Int32) (x3 : Int32) (H : Heap) (locs : List Loc) (ls : Array Slot), va_P D vCl (wX true ca a σ ++ tl) H → va_D A (wX true ca a σ ++ tl) → va_S A s.heap H locs → lv_has ls 12 [(0, .ref (a 35)), (1, .int x1), (2, .int x2), (3, .int x3)] → f_G_workOut_35 N σ x1 x2 x3 = some (r, σ') → W p l e R s m args below meth c H locs 0 0 (MQ below (qb_QI D vCl (tyX ca) (wX true ca a σ' ++ tl) A r) args s 0 0 A) (F0 m 35 ls []) := by
      intro σ x1 x2 x3 H locs ls hP hD hS hl h
      unfold f_G_workOut_35 at h
      refine lv_iconst (v := (1 : Int32)) hx hb d_G_workOut_35 (by decide) ?_
      refine lv_goto (tgt := 40) hx hb d_G_workOut_36 (by decide) ?_
      exact L40 σ x1 x2 x3 (1 : Int32) H locs ls hP hD hS (lv_sub hl [0, 1, 2, 3] rfl) h
    refine lv_icmp_eq (tgt := 35) hx hb d_G_workOut_27 (by decide) (fun hc => ?_) (fun hc => ?_)
    · replace h := it_t h hc
      exact L35 σ x1 x2 t0 H locs ls hP hD hS (lv_sub hl [1, 2, 3, 0] rfl) h
    · replace h := it_f h hc
      refine lv_iload_n hx hb d_G_workOut_30 rfl (lv_at hl 3 rfl) ?_
      refine lv_iconst (v := (5 : Int32)) hx hb d_G_workOut_31 (by decide) ?_
      refine lv_icmp_ne (tgt := 39) hx hb d_G_workOut_32 (by decide) (fun hc => ?_) (fun hc => ?_)
      · replace h := it_f h hc
        refine lv_iconst (v := (0 : Int32)) hx hb d_G_workOut_39 (by decide) ?_
        exact L40 σ x1 x2 t0 (0 : Int32) H locs ls hP hD hS (lv_sub hl [1, 2, 3, 0] rfl) h
      · replace h := it_t h hc
        exact L35 σ x1 x2 t0 H locs ls hP hD hS (lv_sub hl [1, 2, 3, 0] rfl) h
  have L19 : ∀ (σ : St) (x1 : Int32) (x2 : Int32) (H : Heap) (locs : List Loc) (ls : Array Slot), va_P D vCl (wX true ca a σ ++ tl) H → va_D A (wX true ca a σ ++ tl) → va_S A s.heap H locs → lv_has ls 12 [(0, .ref (a 35)), (1, .int x1), (2, .int x2)] → f_G_workOut_19 N σ x1 x2 = some (r, σ') → W p l e R s m args below meth c H locs 0 0 (MQ below (qb_QI D vCl (tyX ca) (wX true ca a σ' ++ tl) A r) args s 0 0 A) (F0 m 19 ls []) := by
    intro σ x1 x2 H locs ls hP hD hS hl h
    unfold f_G_workOut_19 at h
    refine lv_iconst (v := (1 : Int32)) hx hb d_G_workOut_19 (by decide) ?_
    refine lv_goto (tgt := 24) hx hb d_G_workOut_20 (by decide) ?_
    exact L24 σ x1 x2 (1 : Int32) H locs ls hP hD hS (lv_sub hl [0, 1, 2] rfl) h
  refine lv_if_eq (tgt := 19) hx hb d_G_workOut_11 (by decide) (fun hc => ?_) (fun hc => ?_)
  · replace h := it_t h hc
    exact L19 σ x1 (ga σ 10 (x1).toNatClampNeg) H locs ls hP hD hS (lv_sub hl [1, 2, 0] rfl) h
  · replace h := it_f h hc
    refine lv_iload_n hx hb d_G_workOut_14 rfl (lv_at hl 0 rfl) ?_
    refine lv_iconst (v := (1 : Int32)) hx hb d_G_workOut_15 (by decide) ?_
    refine lv_icmp_ne (tgt := 23) hx hb d_G_workOut_16 (by decide) (fun hc => ?_) (fun hc => ?_)
    · replace h := it_f h hc
      refine lv_iconst (v := (0 : Int32)) hx hb d_G_workOut_23 (by decide) ?_
      exact L24 σ x1 (ga σ 10 (x1).toNatClampNeg) (0 : Int32) H locs ls hP hD hS (lv_sub hl [1, 2, 0] rfl) h
    · replace h := it_t h hc
      exact L19 σ x1 (ga σ 10 (x1).toNatClampNeg) H locs ls hP hD hS (lv_sub hl [1, 2, 0] rfl) h
