set_option maxRecDepth 100000 in
set_option maxHeartbeats 4000000 in
theorem c_C_lateAggregates (l : Launch) (D : va_G) (ca : Nat → ClassId) (g : Bool) (a : Nat → Nat) (tl : va_W) (N : Nat) (σ σ' : St) (r : Int32) (h : f_C_lateAggregates N σ = some (r, σ')) : CtI l y_C_lateAggregates ws_C_lateAggregates rm_C_lateAggregates 0 0 D vCl (tyX ca) nwX [.ref (a 31)] (wX g ca a σ ++ tl) (wX g ca a σ' ++ tl) r := by
  refine en_I (ws' := BIG) (by decide +kernel) rfl (Nat.le_of_ble_eq_true rfl) ?_
  intro p e s m below meth c A ls R args H locs hR hx hb hr hlk hml hown hB hK hN hP hD hA hS hl
  have hl : lv_has ls 1 [(0, .ref (a 31))] := hl
  unfold f_C_lateAggregates at h
  refine lv_aload_n hx hb d_C_lateAggregates_0 rfl (lv_at hl 0 rfl) ?_
  refine lv_aload_n hx hb d_C_lateAggregates_1 rfl (lv_at hl 0 rfl) ?_
  refine Xg_31_2 hx hb hB hown (hB _ m_322) hK hP d_C_lateAggregates_2 ?_
  refine Xg_18_9 hx hb hB hown (hB _ m_230) hK hP d_C_lateAggregates_5 ?_
  refine lv_aload_n hx hb d_C_lateAggregates_8 rfl (lv_at hl 0 rfl) ?_
  refine Xg_31_2 hx hb hB hown (hB _ m_322) hK hP d_C_lateAggregates_9 ?_
  refine Xg_18_8 hx hb hB hown (hB _ m_224) hK hP d_C_lateAggregates_12 ?_
  refine lv_aload_n hx hb d_C_lateAggregates_15 rfl (lv_at hl 0 rfl) ?_
  refine Xg_31_1 hx hb hB hown (hB _ m_321) hK hP d_C_lateAggregates_16 ?_
  refine Xg_6_9 hx hb hB hown (hB _ m_153) hK hP d_C_lateAggregates_19 ?_
  obtain ⟨r1, s2, hr1, h⟩ := bd_some h
  refine go_VI (rest := []) ⟨hx, hb, hml, hown, hB⟩ nwX_ok (c_C_bitsIn_4 l D ca g a tl N σ s2 (gi σ 7) r1 hr1) (cwx_V hB m_576 kw_C_bitsIn ⟨by rw [hR]; decide, by rw [hR]; decide⟩ rfl rfl) (va_recv hK hP (ci := 3) (q0 := 31) rfl rfl) hN hK hP hD hS hA rfl hl.1 rfl (Nat.le_of_ble_eq_true rfl) d_C_lateAggregates_22 ⟨by rw [hR]; exact Nat.le_of_ble_eq_true rfl, by rw [hR]; exact Nat.le_of_ble_eq_true rfl⟩ (fun H locs hP hD hS => ?_)
  refine lv_aload_n hx hb d_C_lateAggregates_25 rfl (lv_at hl 0 rfl) ?_
  refine lv_aload_n hx hb d_C_lateAggregates_26 rfl (lv_at hl 0 rfl) ?_
  refine Xg_31_2 hx hb hB hown (hB _ m_322) hK hP d_C_lateAggregates_27 ?_
  refine Xg_18_5 hx hb hB hown (hB _ m_214) hK hP d_C_lateAggregates_30 ?_
  refine lv_aload_n hx hb d_C_lateAggregates_33 rfl (lv_at hl 0 rfl) ?_
  refine Xg_31_1 hx hb hB hown (hB _ m_321) hK hP d_C_lateAggregates_34 ?_
  refine Xg_6_9 hx hb hB hown (hB _ m_153) hK hP d_C_lateAggregates_37 ?_
  obtain ⟨r3, s4, hr3, h⟩ := bd_some h
  refine go_VI (rest := [.int r1]) ⟨hx, hb, hml, hown, hB⟩ nwX_ok (c_C_bitsAt_1 l D ca g a tl N s2 s4 (gi s2 5) r3 hr3) (cwx_V hB m_567 kw_C_bitsAt ⟨by rw [hR]; decide, by rw [hR]; decide⟩ rfl rfl) (va_recv hK hP (ci := 3) (q0 := 31) rfl rfl) hN hK hP hD hS hA rfl hl.1 rfl (Nat.le_of_ble_eq_true rfl) d_C_lateAggregates_40 ⟨by rw [hR]; exact Nat.le_of_ble_eq_true rfl, by rw [hR]; exact Nat.le_of_ble_eq_true rfl⟩ (fun H locs hP hD hS => ?_)
  refine lv_ior hx hb d_C_lateAggregates_43 ?_
  exact rf_I (w := (fun z => wX g ca a z ++ tl)) h hx hb hr hlk hK hP hD hS d_C_lateAggregates_44
set_option maxRecDepth 100000 in
set_option maxHeartbeats 4000000 in
theorem c_C_isGrouped (l : Launch) (D : va_G) (ca : Nat → ClassId) (g : Bool) (a : Nat → Nat) (tl : va_W) (N : Nat) (σ σ' : St) (r : Int32) (h : f_C_isGrouped N σ = some (r, σ')) : CtI l y_C_isGrouped ws_C_isGrouped rm_C_isGrouped 0 0 D vCl (tyX ca) nwX [.ref (a 31)] (wX g ca a σ ++ tl) (wX g ca a σ' ++ tl) r := by
  refine en_Z (ws' := BIG) (by decide +kernel) rfl (Nat.le_of_ble_eq_true rfl) ?_
  intro p e s m below meth c A ls R args H locs hR hx hb hr hlk hml hown hB hK hN hP hD hA hS hl
  have hl : lv_has ls 1 [(0, .ref (a 31))] := hl
  unfold f_C_isGrouped at h
  refine lv_aload_n hx hb d_C_isGrouped_0 rfl (lv_at hl 0 rfl) ?_
  refine Xg_31_2 hx hb hB hown (hB _ m_322) hK hP d_C_isGrouped_1 ?_
  refine Xg_18_6 hx hb hB hown (hB _ m_219) hK hP d_C_isGrouped_4 ?_
  refine lv_if_gt (tgt := 28) hx hb d_C_isGrouped_7 (by decide) (fun hc => ?_) (fun hc => ?_)
  · replace h := it_t h hc
    refine lv_iconst (v := (1 : Int32)) hx hb d_C_isGrouped_28 (by decide) ?_
    refine lv_goto (tgt := 33) hx hb d_C_isGrouped_29 (by decide) ?_
    exact rf_Z (w := (fun z => wX g ca a z ++ tl)) h hx hb hr hlk hK hP hD hS rfl d_C_isGrouped_33
  · replace h := it_f h hc
    refine lv_aload_n hx hb d_C_isGrouped_10 rfl (lv_at hl 0 rfl) ?_
    refine Xg_31_2 hx hb hB hown (hB _ m_322) hK hP d_C_isGrouped_11 ?_
    refine Xg_18_5 hx hb hB hown (hB _ m_214) hK hP d_C_isGrouped_14 ?_
    refine lv_iconst (v := (-1 : Int32)) hx hb d_C_isGrouped_17 (by decide) ?_
    refine lv_icmp_ne (tgt := 28) hx hb d_C_isGrouped_18 (by decide) (fun hc => ?_) (fun hc => ?_)
    · replace h := it_f h hc
      refine lv_iconst (v := (1 : Int32)) hx hb d_C_isGrouped_28 (by decide) ?_
      refine lv_goto (tgt := 33) hx hb d_C_isGrouped_29 (by decide) ?_
      exact rf_Z (w := (fun z => wX g ca a z ++ tl)) h hx hb hr hlk hK hP hD hS rfl d_C_isGrouped_33
    · replace h := it_t h hc
      refine lv_aload_n hx hb d_C_isGrouped_21 rfl (lv_at hl 0 rfl) ?_
      obtain ⟨r1, s2, hr1, h⟩ := bd_some h
      refine go_VI (rest := []) ⟨hx, hb, hml, hown, hB⟩ nwX_ok (c_C_lateAggregates l D ca g a tl N σ s2 r1 hr1) (cwx_V hB m_588 kw_C_lateAggregates ⟨by rw [hR]; decide, by rw [hR]; decide⟩ rfl rfl) (va_recv hK hP (ci := 3) (q0 := 31) rfl rfl) hN hK hP hD hS hA rfl hl.1 rfl (Nat.le_of_ble_eq_true rfl) d_C_isGrouped_22 ⟨by rw [hR]; exact Nat.le_of_ble_eq_true rfl, by rw [hR]; exact Nat.le_of_ble_eq_true rfl⟩ (fun H locs hP hD hS => ?_)
      refine lv_if_eq (tgt := 32) hx hb d_C_isGrouped_25 (by decide) (fun hc => ?_) (fun hc => ?_)
      · replace h := it_t h hc
        refine lv_iconst (v := (0 : Int32)) hx hb d_C_isGrouped_32 (by decide) ?_
        exact rf_Z (w := (fun z => wX g ca a z ++ tl)) h hx hb hr hlk hK hP hD hS rfl d_C_isGrouped_33
      · replace h := it_f h hc
        refine lv_iconst (v := (1 : Int32)) hx hb d_C_isGrouped_28 (by decide) ?_
        refine lv_goto (tgt := 33) hx hb d_C_isGrouped_29 (by decide) ?_
        exact rf_Z (w := (fun z => wX g ca a z ++ tl)) h hx hb hr hlk hK hP hD hS rfl d_C_isGrouped_33
set_option maxRecDepth 100000 in
set_option maxHeartbeats 4000000 in
theorem c_E_isAlike (l : Launch) (D : va_G) (ca : Nat → ClassId) (g : Bool) (a : Nat → Nat) (tl : va_W) (N : Nat) (σ σ' : St) (x1 : Int32) (x2 : Int32) (r : Int32) (h : f_E_isAlike N σ x1 x2 = some (r, σ')) : CtI l y_E_isAlike ws_E_isAlike rm_E_isAlike 0 0 D vCl (tyX ca) nwX [.ref (a 6), .int x1, .int x2] (wX g ca a σ ++ tl) (wX g ca a σ' ++ tl) r := by
  refine en_Z (ws' := BIG) (by decide +kernel) rfl (Nat.le_of_ble_eq_true rfl) ?_
  intro p e s m below meth c A ls R args H locs hR hx hb hr hlk hml hown hB hK hN hP hD hA hS hl
  have hl : lv_has ls 3 [(0, .ref (a 6)), (1, .int x1), (2, .int x2)] := hl
  unfold f_E_isAlike at h
  refine lv_aload_n hx hb d_E_isAlike_0 rfl (lv_at hl 0 rfl) ?_
  refine Xg_6_7 hx hb hB hown (hB _ m_149) hK hP d_E_isAlike_1 ?_
  refine lv_iload_n hx hb d_E_isAlike_4 rfl (lv_at hl 1 rfl) ?_
  obtain ⟨hi, h⟩ := ckb_some h
  refine Xa_12 hx hb hK hP hi d_E_isAlike_5 ?_
  refine lv_aload_n hx hb d_E_isAlike_6 rfl (lv_at hl 0 rfl) ?_
  refine Xg_6_7 hx hb hB hown (hB _ m_149) hK hP d_E_isAlike_7 ?_
  refine lv_iload_n hx hb d_E_isAlike_10 rfl (lv_at hl 2 rfl) ?_
  obtain ⟨hi, h⟩ := ckb_some h
  refine Xa_12 hx hb hK hP hi d_E_isAlike_11 ?_
  refine lv_icmp_ne (tgt := 19) hx hb d_E_isAlike_12 (by decide) (fun hc => ?_) (fun hc => ?_)
  · replace h := it_f h hc
    refine lv_iconst (v := (0 : Int32)) hx hb d_E_isAlike_19 (by decide) ?_
    exact rf_Z (w := (fun z => wX g ca a z ++ tl)) h hx hb hr hlk hK hP hD hS rfl d_E_isAlike_20
  · replace h := it_t h hc
    refine lv_iconst (v := (1 : Int32)) hx hb d_E_isAlike_15 (by decide) ?_
    refine lv_goto (tgt := 20) hx hb d_E_isAlike_16 (by decide) ?_
    exact rf_Z (w := (fun z => wX g ca a z ++ tl)) h hx hb hr hlk hK hP hD hS rfl d_E_isAlike_20
set_option maxRecDepth 100000 in
set_option maxHeartbeats 4000000 in
theorem c_C_isLikeGroup (l : Launch) (D : va_G) (ca : Nat → ClassId) (g : Bool) (a : Nat → Nat) (tl : va_W) (N : Nat) (σ σ' : St) (x1 : Int32) (r : Int32) (h : f_C_isLikeGroup N σ x1 = some (r, σ')) : CtI l y_C_isLikeGroup ws_C_isLikeGroup rm_C_isLikeGroup 0 0 D vCl (tyX ca) nwX [.ref (a 31), .int x1] (wX g ca a σ ++ tl) (wX g ca a σ' ++ tl) r := by
  refine en_Z (ws' := BIG) (by decide +kernel) rfl (Nat.le_of_ble_eq_true rfl) ?_
  intro p e s m below meth c A ls R args H locs hR hx hb hr hlk hml hown hB hK hN hP hD hA hS hl
  have hl : lv_has ls 3 [(0, .ref (a 31)), (1, .int x1)] := hl
  unfold f_C_isLikeGroup at h
  refine lv_iconst (v := (0 : Int32)) hx hb d_C_isLikeGroup_0 (by decide) ?_
  have L2 : ∀ (n : Nat) (σ : St) (x1 : Int32) (x2 : Int32) (H : Heap) (locs : List Loc) (ls : Array Slot), va_P D vCl (wX g ca a σ ++ tl) H → va_D A (wX g ca a σ ++ tl) → va_S A s.heap H locs → lv_has ls 3 [(0, .ref (a 31)), (1, .int x1), (2, .int x2)] → f_C_isLikeGroup_2 N n σ x1 x2 = some (r, σ') → W p l e R s m args below meth c H locs 0 0 (MQ below (qb_QI D vCl (tyX ca) (wX g ca a σ' ++ tl) A r) args s 0 0 A) (F0 m 2 ls []) := by
    intro n
    induction n with
    | zero => intro σ x1 x2 H locs ls hP hD hS hl h; cases h
    | succ n ih2 =>
        intro σ x1 x2 H locs ls hP hD hS hl h
        obtain ⟨K2, eK2⟩ : ∃ K, K = f_C_isLikeGroup_2 N n := ⟨_, rfl⟩
        rw [← eK2] at ih2
        replace h : f_C_isLikeGroup_2_b N K2 σ x1 x2 = some (r, σ') := by rw [eK2]; exact h
        unfold f_C_isLikeGroup_2_b at h
        refine lv_iload_n hx hb d_C_isLikeGroup_2 rfl (lv_at hl 2 rfl) ?_
        refine lv_aload_n hx hb d_C_isLikeGroup_3 rfl (lv_at hl 0 rfl) ?_
        refine Xg_31_2 hx hb hB hown (hB _ m_322) hK hP d_C_isLikeGroup_4 ?_
        refine Xg_18_6 hx hb hB hown (hB _ m_219) hK hP d_C_isLikeGroup_7 ?_
        refine lv_icmp_ge (tgt := 41) hx hb d_C_isLikeGroup_10 (by decide) (fun hc => ?_) (fun hc => ?_)
        · replace h := it_t h hc
          refine lv_iconst (v := (0 : Int32)) hx hb d_C_isLikeGroup_41 (by decide) ?_
          exact rf_Z (w := (fun z => wX g ca a z ++ tl)) h hx hb hr hlk hK hP hD hS rfl d_C_isLikeGroup_42
        · replace h := it_f h hc
          refine lv_aload_n hx hb d_C_isLikeGroup_13 rfl (lv_at hl 0 rfl) ?_
          refine Xg_31_1 hx hb hB hown (hB _ m_321) hK hP d_C_isLikeGroup_14 ?_
          refine lv_iload_n hx hb d_C_isLikeGroup_17 rfl (lv_at hl 1 rfl) ?_
          refine lv_aload_n hx hb d_C_isLikeGroup_18 rfl (lv_at hl 0 rfl) ?_
          refine Xg_31_2 hx hb hB hown (hB _ m_322) hK hP d_C_isLikeGroup_19 ?_
          refine Xg_18_7 hx hb hB hown (hB _ m_222) hK hP d_C_isLikeGroup_22 ?_
          refine lv_iload_n hx hb d_C_isLikeGroup_25 rfl (lv_at hl 2 rfl) ?_
          obtain ⟨hi, h⟩ := ckb_some h
          refine Xa_22 hx hb hK hP hi d_C_isLikeGroup_26 ?_
          obtain ⟨r1, s2, hr1, h⟩ := bd_some h
          refine go_VI (rest := []) ⟨hx, hb, hml, hown, hB⟩ nwX_ok (c_E_isAlike l D ca g a tl N σ s2 x1 (ga σ 16 (x2).toNatClampNeg) r1 hr1) (cwx_V hB m_600 kw_E_isAlike ⟨by rw [hR]; decide, by rw [hR]; decide⟩ rfl rfl) (va_recv hK hP (ci := 5) (q0 := 6) rfl rfl) hN hK hP hD hS hA rfl hl.1 rfl (Nat.le_of_ble_eq_true rfl) d_C_isLikeGroup_27 ⟨by rw [hR]; exact Nat.le_of_ble_eq_true rfl, by rw [hR]; exact Nat.le_of_ble_eq_true rfl⟩ (fun H locs hP hD hS => ?_)
          refine lv_if_eq (tgt := 35) hx hb d_C_isLikeGroup_30 (by decide) (fun hc => ?_) (fun hc => ?_)
          · replace h := it_t h hc
            refine lv_iinc (v := (x2 + 1)) (lv' := [(2, .int (x2 + 1)), (0, .ref (a 31)), (1, .int x1)]) hx hb d_C_isLikeGroup_35 hl (k := 2) rfl rfl (by decide) rfl (fun ls hl => ?_)
            refine lv_goto (tgt := 2) hx hb d_C_isLikeGroup_38 (by decide) ?_
            exact ih2 s2 x1 (x2 + 1) H locs ls hP hD hS (lv_sub hl [1, 2, 0] rfl) h
          · replace h := it_f h hc
            refine lv_iconst (v := (1 : Int32)) hx hb d_C_isLikeGroup_33 (by decide) ?_
            exact rf_Z (w := (fun z => wX g ca a z ++ tl)) h hx hb hr hlk hK hP hD hS rfl d_C_isLikeGroup_34
  refine lv_istore_n (lv' := [(2, .int (0 : Int32)), (0, .ref (a 31)), (1, .int x1)]) hx hb d_C_isLikeGroup_1 rfl hl (by decide) rfl (fun ls hl => ?_)
  exact L2 N σ x1 (0 : Int32) H locs ls hP hD hS (lv_sub hl [1, 2, 0] rfl) h
set_option maxRecDepth 100000 in
set_option maxHeartbeats 4000000 in
theorem c_C_isLoose (l : Launch) (D : va_G) (ca : Nat → ClassId) (g : Bool) (a : Nat → Nat) (tl : va_W) (N : Nat) (σ σ' : St) (x1 : Int32) (r : Int32) (h : f_C_isLoose N σ x1 = some (r, σ')) : CtI l y_C_isLoose ws_C_isLoose rm_C_isLoose 0 0 D vCl (tyX ca) nwX [.ref (a 31), .int x1] (wX g ca a σ ++ tl) (wX g ca a σ' ++ tl) r := by
  refine en_Z (ws' := BIG) (by decide +kernel) rfl (Nat.le_of_ble_eq_true rfl) ?_
  intro p e s m below meth c A ls R args H locs hR hx hb hr hlk hml hown hB hK hN hP hD hA hS hl
  have hl : lv_has ls 5 [(0, .ref (a 31)), (1, .int x1)] := hl
  unfold f_C_isLoose at h
  refine lv_aload_n hx hb d_C_isLoose_0 rfl (lv_at hl 0 rfl) ?_
  refine Xg_31_1 hx hb hB hown (hB _ m_321) hK hP d_C_isLoose_1 ?_
  refine Xg_6_2 hx hb hB hown (hB _ m_139) hK hP d_C_isLoose_4 ?_
  refine lv_iload_n hx hb d_C_isLoose_7 rfl (lv_at hl 1 rfl) ?_
  obtain ⟨hi, h⟩ := ckb_some h
  refine Xa_7 hx hb hK hP hi d_C_isLoose_8 ?_
  refine lv_istore_n (lv' := [(2, .int (ga σ 3 (x1).toNatClampNeg)), (0, .ref (a 31)), (1, .int x1)]) hx hb d_C_isLoose_9 rfl hl (by decide) rfl (fun ls hl => ?_)
  refine lv_iload_n hx hb d_C_isLoose_10 rfl (lv_at hl 0 rfl) ?_
  refine lv_bipush (v := (15 : Int32)) hx hb d_C_isLoose_11 (by decide) ?_
  have L22 : ∀ (σ : St) (x2 : Int32) (H : Heap) (locs : List Loc) (ls : Array Slot), va_P D vCl (wX g ca a σ ++ tl) H → va_D A (wX g ca a σ ++ tl) → va_S A s.heap H locs → lv_has ls 5 [(2, .int x2)] → f_C_isLoose_22 N σ x2 = some (r, σ') → W p l e R s m args below meth c H locs 0 0 (MQ below (qb_QI D vCl (tyX ca) (wX g ca a σ' ++ tl) A r) args s 0 0 A) (F0 m 22 ls []) := by
    intro σ x2 H locs ls hP hD hS hl h
    unfold f_C_isLoose_22 at h
    refine lv_iload_n hx hb d_C_isLoose_22 rfl (lv_at hl 0 rfl) ?_
    refine lv_bipush (v := (15 : Int32)) hx hb d_C_isLoose_23 (by decide) ?_
    refine lv_icmp_ne (tgt := 32) hx hb d_C_isLoose_25 (by decide) (fun hc => ?_) (fun hc => ?_)
    · replace h := it_f h hc
      refine lv_iconst (v := (0 : Int32)) hx hb d_C_isLoose_32 (by decide) ?_
      exact rf_Z (w := (fun z => wX g ca a z ++ tl)) h hx hb hr hlk hK hP hD hS rfl d_C_isLoose_33
    · replace h := it_t h hc
      refine lv_iconst (v := (1 : Int32)) hx hb d_C_isLoose_28 (by decide) ?_
      refine lv_goto (tgt := 33) hx hb d_C_isLoose_29 (by decide) ?_
      exact rf_Z (w := (fun z => wX g ca a z ++ tl)) h hx hb hr hlk hK hP hD hS rfl d_C_isLoose_33
  refine lv_icmp_eq (tgt := 22) hx hb d_C_isLoose_13 (by decide) (fun hc => ?_) (fun hc => ?_)
  · replace h := it_t h hc
    exact L22 σ (ga σ 3 (x1).toNatClampNeg) H locs ls hP hD hS (lv_sub hl [0] rfl) h
  · replace h := it_f h hc
    refine lv_iload_n hx hb d_C_isLoose_16 rfl (lv_at hl 0 rfl) ?_
    refine lv_bipush (v := (16 : Int32)) hx hb d_C_isLoose_17 (by decide) ?_
    refine lv_icmp_ne (tgt := 34) hx hb d_C_isLoose_19 (by decide) (fun hc => ?_) (fun hc => ?_)
    · replace h := it_f h hc
      refine lv_aload_n hx hb d_C_isLoose_34 rfl (lv_at hl 1 rfl) ?_
      refine Xg_31_1 hx hb hB hown (hB _ m_321) hK hP d_C_isLoose_35 ?_
      refine Xg_6_4 hx hb hB hown (hB _ m_144) hK hP d_C_isLoose_38 ?_
      refine lv_iload_n hx hb d_C_isLoose_41 rfl (lv_at hl 2 rfl) ?_
      obtain ⟨hi, h⟩ := ckb_some h
      refine Xa_9 hx hb hK hP hi d_C_isLoose_42 ?_
      refine lv_istore_n (lv' := [(3, .int (ga σ 4 (x1).toNatClampNeg)), (2, .int (ga σ 3 (x1).toNatClampNeg)), (0, .ref (a 31)), (1, .int x1)]) hx hb d_C_isLoose_43 rfl hl (by decide) rfl (fun ls hl => ?_)
      refine lv_aload_n hx hb d_C_isLoose_44 rfl (lv_at hl 2 rfl) ?_
      refine Xg_31_1 hx hb hB hown (hB _ m_321) hK hP d_C_isLoose_45 ?_
      refine Xg_6_5 hx hb hB hown (hB _ m_147) hK hP d_C_isLoose_48 ?_
      refine lv_iload_n hx hb d_C_isLoose_51 rfl (lv_at hl 3 rfl) ?_
      obtain ⟨hi, h⟩ := ckb_some h
      refine Xa_10 hx hb hK hP hi d_C_isLoose_52 ?_
      refine lv_istore (lv' := [(4, .int (ga σ 5 (x1).toNatClampNeg)), (3, .int (ga σ 4 (x1).toNatClampNeg)), (2, .int (ga σ 3 (x1).toNatClampNeg)), (0, .ref (a 31)), (1, .int x1)]) hx hb d_C_isLoose_53 hl (by decide) rfl (fun ls hl => ?_)
      refine lv_aload_n hx hb d_C_isLoose_55 rfl (lv_at hl 3 rfl) ?_
      refine Xg_31_1 hx hb hB hown (hB _ m_321) hK hP d_C_isLoose_56 ?_
      refine lv_iload_n hx hb d_C_isLoose_59 rfl (lv_at hl 1 rfl) ?_
      obtain ⟨r1, s2, hr1, h⟩ := bd_some h
      refine go_VI (rest := []) ⟨hx, hb, hml, hown, hB⟩ nwX_ok (c_E_has l D ca g a tl N σ s2 (ga σ 4 (x1).toNatClampNeg) r1 hr1) (cwx_V hB m_571 kw_E_has ⟨by rw [hR]; decide, by rw [hR]; decide⟩ rfl rfl) (va_recv hK hP (ci := 5) (q0 := 6) rfl rfl) hN hK hP hD hS hA rfl hl.1 rfl (Nat.le_of_ble_eq_true rfl) d_C_isLoose_60 ⟨by rw [hR]; exact Nat.le_of_ble_eq_true rfl, by rw [hR]; exact Nat.le_of_ble_eq_true rfl⟩ (fun H locs hP hD hS => ?_)
      have L75 : ∀ (σ : St) (x4 : Int32) (H : Heap) (locs : List Loc) (ls : Array Slot), va_P D vCl (wX g ca a σ ++ tl) H → va_D A (wX g ca a σ ++ tl) → va_S A s.heap H locs → lv_has ls 5 [(0, .ref (a 31)), (4, .int x4)] → f_C_isLoose_75 N σ x4 = some (r, σ') → W p l e R s m args below meth c H locs 0 0 (MQ below (qb_QI D vCl (tyX ca) (wX g ca a σ' ++ tl) A r) args s 0 0 A) (F0 m 75 ls []) := by
        intro σ x4 H locs ls hP hD hS hl h
        unfold f_C_isLoose_75 at h
        refine lv_aload_n hx hb d_C_isLoose_75 rfl (lv_at hl 0 rfl) ?_
        refine Xg_31_1 hx hb hB hown (hB _ m_321) hK hP d_C_isLoose_76 ?_
        refine lv_iload hx hb d_C_isLoose_79 (lv_at hl 1 rfl) ?_
        obtain ⟨r3, s4, hr3, h⟩ := bd_some h
        refine go_VI (rest := []) ⟨hx, hb, hml, hown, hB⟩ nwX_ok (c_E_has l D ca g a tl N σ s4 x4 r3 hr3) (cwx_V hB m_571 kw_E_has ⟨by rw [hR]; decide, by rw [hR]; decide⟩ rfl rfl) (va_recv hK hP (ci := 5) (q0 := 6) rfl rfl) hN hK hP hD hS hA rfl hl.1 rfl (Nat.le_of_ble_eq_true rfl) d_C_isLoose_81 ⟨by rw [hR]; exact Nat.le_of_ble_eq_true rfl, by rw [hR]; exact Nat.le_of_ble_eq_true rfl⟩ (fun H locs hP hD hS => ?_)
        refine lv_if_eq (tgt := 101) hx hb d_C_isLoose_84 (by decide) (fun hc => ?_) (fun hc => ?_)
        · replace h := it_t h hc
          refine lv_iconst (v := (0 : Int32)) hx hb d_C_isLoose_101 (by decide) ?_
          exact rf_Z (w := (fun z => wX g ca a z ++ tl)) h hx hb hr hlk hK hP hD hS rfl d_C_isLoose_102
        · replace h := it_f h hc
          refine lv_aload_n hx hb d_C_isLoose_87 rfl (lv_at hl 0 rfl) ?_
          refine Xg_31_3 hx hb hB hown (hB _ m_323) hK hP d_C_isLoose_88 ?_
          refine lv_iload hx hb d_C_isLoose_91 (lv_at hl 1 rfl) ?_
          obtain ⟨hi, h⟩ := ckb_some h
          refine Xa_32 hx hb hK hP hi d_C_isLoose_93 ?_
          refine lv_if_eq (tgt := 101) hx hb d_C_isLoose_94 (by decide) (fun hc => ?_) (fun hc => ?_)
          · replace h := it_t h hc
            refine lv_iconst (v := (0 : Int32)) hx hb d_C_isLoose_101 (by decide) ?_
            exact rf_Z (w := (fun z => wX g ca a z ++ tl)) h hx hb hr hlk hK hP hD hS rfl d_C_isLoose_102
          · replace h := it_f h hc
            refine lv_iconst (v := (1 : Int32)) hx hb d_C_isLoose_97 (by decide) ?_
            refine lv_goto (tgt := 102) hx hb d_C_isLoose_98 (by decide) ?_
            exact rf_Z (w := (fun z => wX g ca a z ++ tl)) h hx hb hr hlk hK hP hD hS rfl d_C_isLoose_102
      refine lv_if_eq (tgt := 75) hx hb d_C_isLoose_63 (by decide) (fun hc => ?_) (fun hc => ?_)
      · replace h := it_t h hc
        exact L75 s2 (ga σ 5 (x1).toNatClampNeg) H locs ls hP hD hS (lv_sub hl [3, 0] rfl) h
      · replace h := it_f h hc
        refine lv_aload_n hx hb d_C_isLoose_66 rfl (lv_at hl 3 rfl) ?_
        refine Xg_31_3 hx hb hB hown (hB _ m_323) hK hP d_C_isLoose_67 ?_
        refine lv_iload_n hx hb d_C_isLoose_70 rfl (lv_at hl 1 rfl) ?_
        obtain ⟨hi, h⟩ := ckb_some h
        refine Xa_32 hx hb hK hP hi d_C_isLoose_71 ?_
        refine lv_if_ne (tgt := 97) hx hb d_C_isLoose_72 (by decide) (fun hc => ?_) (fun hc => ?_)
        · replace h := it_f h hc
          refine lv_iconst (v := (1 : Int32)) hx hb d_C_isLoose_97 (by decide) ?_
          refine lv_goto (tgt := 102) hx hb d_C_isLoose_98 (by decide) ?_
          exact rf_Z (w := (fun z => wX g ca a z ++ tl)) h hx hb hr hlk hK hP hD hS rfl d_C_isLoose_102
        · replace h := it_t h hc
          exact L75 s2 (ga σ 5 (x1).toNatClampNeg) H locs ls hP hD hS (lv_sub hl [3, 0] rfl) h
    · replace h := it_t h hc
      exact L22 σ (ga σ 3 (x1).toNatClampNeg) H locs ls hP hD hS (lv_sub hl [0] rfl) h
set_option maxRecDepth 100000 in
set_option maxHeartbeats 4000000 in
theorem c_C_hasLooseColumn (l : Launch) (D : va_G) (ca : Nat → ClassId) (g : Bool) (a : Nat → Nat) (tl : va_W) (N : Nat) (σ σ' : St) (r : Int32) (h : f_C_hasLooseColumn N σ = some (r, σ')) : CtI l y_C_hasLooseColumn ws_C_hasLooseColumn rm_C_hasLooseColumn 0 0 D vCl (tyX ca) nwX [.ref (a 31)] (wX g ca a σ ++ tl) (wX g ca a σ' ++ tl) r := by
  refine en_Z (ws' := BIG) (by decide +kernel) rfl (Nat.le_of_ble_eq_true rfl) ?_
  intro p e s m below meth c A ls R args H locs hR hx hb hr hlk hml hown hB hK hN hP hD hA hS hl
  have hl : lv_has ls 2 [(0, .ref (a 31))] := hl
  unfold f_C_hasLooseColumn at h
  refine lv_iconst (v := (0 : Int32)) hx hb d_C_hasLooseColumn_0 (by decide) ?_
  have L2 : ∀ (n : Nat) (σ : St) (x1 : Int32) (H : Heap) (locs : List Loc) (ls : Array Slot), va_P D vCl (wX g ca a σ ++ tl) H → va_D A (wX g ca a σ ++ tl) → va_S A s.heap H locs → lv_has ls 2 [(0, .ref (a 31)), (1, .int x1)] → f_C_hasLooseColumn_2 N n σ x1 = some (r, σ') → W p l e R s m args below meth c H locs 0 0 (MQ below (qb_QI D vCl (tyX ca) (wX g ca a σ' ++ tl) A r) args s 0 0 A) (F0 m 2 ls []) := by
    intro n
    induction n with
    | zero => intro σ x1 H locs ls hP hD hS hl h; cases h
    | succ n ih2 =>
        intro σ x1 H locs ls hP hD hS hl h
        obtain ⟨K2, eK2⟩ : ∃ K, K = f_C_hasLooseColumn_2 N n := ⟨_, rfl⟩
        rw [← eK2] at ih2
        replace h : f_C_hasLooseColumn_2_b N K2 σ x1 = some (r, σ') := by rw [eK2]; exact h
        unfold f_C_hasLooseColumn_2_b at h
        refine lv_iload_n hx hb d_C_hasLooseColumn_2 rfl (lv_at hl 1 rfl) ?_
        refine lv_aload_n hx hb d_C_hasLooseColumn_3 rfl (lv_at hl 0 rfl) ?_
        refine Xg_31_1 hx hb hB hown (hB _ m_321) hK hP d_C_hasLooseColumn_4 ?_
        refine Xg_6_0 hx hb hB hown (hB _ m_133) hK hP d_C_hasLooseColumn_7 ?_
        refine lv_icmp_ge (tgt := 46) hx hb d_C_hasLooseColumn_10 (by decide) (fun hc => ?_) (fun hc => ?_)
        · replace h := it_t h hc
          refine lv_iconst (v := (0 : Int32)) hx hb d_C_hasLooseColumn_46 (by decide) ?_
          have L48 : ∀ (n : Nat) (σ : St) (x1 : Int32) (H : Heap) (locs : List Loc) (ls : Array Slot), va_P D vCl (wX g ca a σ ++ tl) H → va_D A (wX g ca a σ ++ tl) → va_S A s.heap H locs → lv_has ls 2 [(0, .ref (a 31)), (1, .int x1)] → f_C_hasLooseColumn_48 N n σ x1 = some (r, σ') → W p l e R s m args below meth c H locs 0 0 (MQ below (qb_QI D vCl (tyX ca) (wX g ca a σ' ++ tl) A r) args s 0 0 A) (F0 m 48 ls []) := by
            intro n
            induction n with
            | zero => intro σ x1 H locs ls hP hD hS hl h; cases h
            | succ n ih48 =>
                intro σ x1 H locs ls hP hD hS hl h
                obtain ⟨K48, eK48⟩ : ∃ K, K = f_C_hasLooseColumn_48 N n := ⟨_, rfl⟩
                rw [← eK48] at ih48
                replace h : f_C_hasLooseColumn_48_b N K48 σ x1 = some (r, σ') := by rw [eK48]; exact h
                unfold f_C_hasLooseColumn_48_b at h
                refine lv_iload_n hx hb d_C_hasLooseColumn_48 rfl (lv_at hl 1 rfl) ?_
                refine lv_aload_n hx hb d_C_hasLooseColumn_49 rfl (lv_at hl 0 rfl) ?_
                refine Xg_31_2 hx hb hB hown (hB _ m_322) hK hP d_C_hasLooseColumn_50 ?_
                refine Xg_18_8 hx hb hB hown (hB _ m_224) hK hP d_C_hasLooseColumn_53 ?_
                refine lv_icmp_ge (tgt := 84) hx hb d_C_hasLooseColumn_56 (by decide) (fun hc => ?_) (fun hc => ?_)
                · replace h := it_t h hc
                  refine lv_aload_n hx hb d_C_hasLooseColumn_84 rfl (lv_at hl 0 rfl) ?_
                  refine Xg_31_1 hx hb hB hown (hB _ m_321) hK hP d_C_hasLooseColumn_85 ?_
                  refine lv_aload_n hx hb d_C_hasLooseColumn_88 rfl (lv_at hl 0 rfl) ?_
                  refine Xg_31_2 hx hb hB hown (hB _ m_322) hK hP d_C_hasLooseColumn_89 ?_
                  refine Xg_18_5 hx hb hB hown (hB _ m_214) hK hP d_C_hasLooseColumn_92 ?_
                  obtain ⟨r1, s2, hr1, h⟩ := bd_some h
                  refine go_VI (rest := []) ⟨hx, hb, hml, hown, hB⟩ nwX_ok (c_E_has l D ca g a tl N σ s2 (gi σ 5) r1 hr1) (cwx_V hB m_571 kw_E_has ⟨by rw [hR]; decide, by rw [hR]; decide⟩ rfl rfl) (va_recv hK hP (ci := 5) (q0 := 6) rfl rfl) hN hK hP hD hS hA rfl hl.1 rfl (Nat.le_of_ble_eq_true rfl) d_C_hasLooseColumn_95 ⟨by rw [hR]; exact Nat.le_of_ble_eq_true rfl, by rw [hR]; exact Nat.le_of_ble_eq_true rfl⟩ (fun H locs hP hD hS => ?_)
                  refine lv_if_eq (tgt := 120) hx hb d_C_hasLooseColumn_98 (by decide) (fun hc => ?_) (fun hc => ?_)
                  · replace h := it_t h hc
                    refine lv_iconst (v := (0 : Int32)) hx hb d_C_hasLooseColumn_120 (by decide) ?_
                    exact rf_Z (w := (fun z => wX g ca a z ++ tl)) h hx hb hr hlk hK hP hD hS rfl d_C_hasLooseColumn_121
                  · replace h := it_f h hc
                    refine lv_aload_n hx hb d_C_hasLooseColumn_101 rfl (lv_at hl 0 rfl) ?_
                    refine Xg_31_3 hx hb hB hown (hB _ m_323) hK hP d_C_hasLooseColumn_102 ?_
                    refine lv_aload_n hx hb d_C_hasLooseColumn_105 rfl (lv_at hl 0 rfl) ?_
                    refine Xg_31_2 hx hb hB hown (hB _ m_322) hK hP d_C_hasLooseColumn_106 ?_
                    refine Xg_18_5 hx hb hB hown (hB _ m_214) hK hP d_C_hasLooseColumn_109 ?_
                    obtain ⟨hi, h⟩ := ckb_some h
                    refine Xa_32 hx hb hK hP hi d_C_hasLooseColumn_112 ?_
                    refine lv_if_eq (tgt := 120) hx hb d_C_hasLooseColumn_113 (by decide) (fun hc => ?_) (fun hc => ?_)
                    · replace h := it_t h hc
                      refine lv_iconst (v := (0 : Int32)) hx hb d_C_hasLooseColumn_120 (by decide) ?_
                      exact rf_Z (w := (fun z => wX g ca a z ++ tl)) h hx hb hr hlk hK hP hD hS rfl d_C_hasLooseColumn_121
                    · replace h := it_f h hc
                      refine lv_iconst (v := (1 : Int32)) hx hb d_C_hasLooseColumn_116 (by decide) ?_
                      refine lv_goto (tgt := 121) hx hb d_C_hasLooseColumn_117 (by decide) ?_
                      exact rf_Z (w := (fun z => wX g ca a z ++ tl)) h hx hb hr hlk hK hP hD hS rfl d_C_hasLooseColumn_121
                · replace h := it_f h hc
                  refine lv_aload_n hx hb d_C_hasLooseColumn_59 rfl (lv_at hl 0 rfl) ?_
                  refine Xg_31_3 hx hb hB hown (hB _ m_323) hK hP d_C_hasLooseColumn_60 ?_
                  refine lv_aload_n hx hb d_C_hasLooseColumn_63 rfl (lv_at hl 0 rfl) ?_
                  refine Xg_31_2 hx hb hB hown (hB _ m_322) hK hP d_C_hasLooseColumn_64 ?_
                  refine Xg_18_9 hx hb hB hown (hB _ m_230) hK hP d_C_hasLooseColumn_67 ?_
                  refine lv_iload_n hx hb d_C_hasLooseColumn_70 rfl (lv_at hl 1 rfl) ?_
                  obtain ⟨hi, h⟩ := ckb_some h
                  refine Xa_23 hx hb hK hP hi d_C_hasLooseColumn_71 ?_
                  obtain ⟨hi, h⟩ := ckb_some h
                  refine Xa_32 hx hb hK hP hi d_C_hasLooseColumn_72 ?_
                  refine lv_if_eq (tgt := 78) hx hb d_C_hasLooseColumn_73 (by decide) (fun hc => ?_) (fun hc => ?_)
                  · replace h := it_t h hc
                    refine lv_iinc (v := (x1 + 1)) (lv' := [(1, .int (x1 + 1)), (0, .ref (a 31))]) hx hb d_C_hasLooseColumn_78 hl (k := 1) rfl rfl (by decide) rfl (fun ls hl => ?_)
                    refine lv_goto (tgt := 48) hx hb d_C_hasLooseColumn_81 (by decide) ?_
                    exact ih48 σ (x1 + 1) H locs ls hP hD hS (lv_sub hl [1, 0] rfl) h
                  · replace h := it_f h hc
                    refine lv_iconst (v := (1 : Int32)) hx hb d_C_hasLooseColumn_76 (by decide) ?_
                    exact rf_Z (w := (fun z => wX g ca a z ++ tl)) h hx hb hr hlk hK hP hD hS rfl d_C_hasLooseColumn_77
          refine lv_istore_n (lv' := [(1, .int (0 : Int32)), (0, .ref (a 31))]) hx hb d_C_hasLooseColumn_47 rfl hl (by decide) rfl (fun ls hl => ?_)
          exact L48 N σ (0 : Int32) H locs ls hP hD hS (lv_sub hl [1, 0] rfl) h
        · replace h := it_f h hc
          refine lv_aload_n hx hb d_C_hasLooseColumn_13 rfl (lv_at hl 0 rfl) ?_
          refine Xg_31_3 hx hb hB hown (hB _ m_323) hK hP d_C_hasLooseColumn_14 ?_
          refine lv_iload_n hx hb d_C_hasLooseColumn_17 rfl (lv_at hl 1 rfl) ?_
          refine lv_aload_n hx hb d_C_hasLooseColumn_18 rfl (lv_at hl 0 rfl) ?_
          refine lv_iload_n hx hb d_C_hasLooseColumn_19 rfl (lv_at hl 1 rfl) ?_
          obtain ⟨r3, s4, hr3, h⟩ := bd_some h
          refine go_VI (rest := [.int x1, .ref (a 32)]) ⟨hx, hb, hml, hown, hB⟩ nwX_ok (c_C_isLikeGroup l D ca g a tl N σ s4 x1 r3 hr3) (cwx_V hB m_596 kw_C_isLikeGroup ⟨by rw [hR]; decide, by rw [hR]; decide⟩ rfl rfl) (va_recv hK hP (ci := 3) (q0 := 31) rfl rfl) hN hK hP hD hS hA rfl hl.1 rfl (Nat.le_of_ble_eq_true rfl) d_C_hasLooseColumn_20 ⟨by rw [hR]; exact Nat.le_of_ble_eq_true rfl, by rw [hR]; exact Nat.le_of_ble_eq_true rfl⟩ (fun H locs hP hD hS => ?_)
          refine lv_if_ne (tgt := 38) hx hb d_C_hasLooseColumn_23 (by decide) (fun hc => ?_) (fun hc => ?_)
          · replace h := it_f h hc
            refine lv_iconst (v := (0 : Int32)) hx hb d_C_hasLooseColumn_38 (by decide) ?_
            obtain ⟨hi, h⟩ := ckb_some h
            obtain ⟨s5, es5, h⟩ := nm_some h
            refine Xs_32 es5 hx hb hK hP hD hS hi d_C_hasLooseColumn_39 (fun H locs hP hD hS => ?_)
            refine lv_iinc (v := (x1 + 1)) (lv' := [(1, .int (x1 + 1)), (0, .ref (a 31))]) hx hb d_C_hasLooseColumn_40 hl (k := 1) rfl rfl (by decide) rfl (fun ls hl => ?_)
            refine lv_goto (tgt := 2) hx hb d_C_hasLooseColumn_43 (by decide) ?_
            exact ih2 s5 (x1 + 1) H locs ls hP hD hS (lv_sub hl [1, 0] rfl) h
          · replace h := it_t h hc
            refine lv_aload_n hx hb d_C_hasLooseColumn_26 rfl (lv_at hl 0 rfl) ?_
            refine lv_iload_n hx hb d_C_hasLooseColumn_27 rfl (lv_at hl 1 rfl) ?_
            obtain ⟨r6, s7, hr6, h⟩ := bd_some h
            refine go_VI (rest := [.int x1, .ref (a 32)]) ⟨hx, hb, hml, hown, hB⟩ nwX_ok (c_C_isLoose l D ca g a tl N s4 s7 x1 r6 hr6) (cwx_V hB m_604 kw_C_isLoose ⟨by rw [hR]; decide, by rw [hR]; decide⟩ rfl rfl) (va_recv hK hP (ci := 3) (q0 := 31) rfl rfl) hN hK hP hD hS hA rfl hl.1 rfl (Nat.le_of_ble_eq_true rfl) d_C_hasLooseColumn_28 ⟨by rw [hR]; exact Nat.le_of_ble_eq_true rfl, by rw [hR]; exact Nat.le_of_ble_eq_true rfl⟩ (fun H locs hP hD hS => ?_)
            refine lv_if_eq (tgt := 38) hx hb d_C_hasLooseColumn_31 (by decide) (fun hc => ?_) (fun hc => ?_)
            · replace h := it_t h hc
              refine lv_iconst (v := (0 : Int32)) hx hb d_C_hasLooseColumn_38 (by decide) ?_
              obtain ⟨hi, h⟩ := ckb_some h
              obtain ⟨s8, es8, h⟩ := nm_some h
              refine Xs_32 es8 hx hb hK hP hD hS hi d_C_hasLooseColumn_39 (fun H locs hP hD hS => ?_)
              refine lv_iinc (v := (x1 + 1)) (lv' := [(1, .int (x1 + 1)), (0, .ref (a 31))]) hx hb d_C_hasLooseColumn_40 hl (k := 1) rfl rfl (by decide) rfl (fun ls hl => ?_)
              refine lv_goto (tgt := 2) hx hb d_C_hasLooseColumn_43 (by decide) ?_
              exact ih2 s8 (x1 + 1) H locs ls hP hD hS (lv_sub hl [1, 0] rfl) h
            · replace h := it_f h hc
              refine lv_iconst (v := (1 : Int32)) hx hb d_C_hasLooseColumn_34 (by decide) ?_
              refine lv_goto (tgt := 39) hx hb d_C_hasLooseColumn_35 (by decide) ?_
              obtain ⟨hi, h⟩ := ckb_some h
              obtain ⟨s9, es9, h⟩ := nm_some h
              refine Xs_32 es9 hx hb hK hP hD hS hi d_C_hasLooseColumn_39 (fun H locs hP hD hS => ?_)
              refine lv_iinc (v := (x1 + 1)) (lv' := [(1, .int (x1 + 1)), (0, .ref (a 31))]) hx hb d_C_hasLooseColumn_40 hl (k := 1) rfl rfl (by decide) rfl (fun ls hl => ?_)
              refine lv_goto (tgt := 2) hx hb d_C_hasLooseColumn_43 (by decide) ?_
              exact ih2 s9 (x1 + 1) H locs ls hP hD hS (lv_sub hl [1, 0] rfl) h
  refine lv_istore_n (lv' := [(1, .int (0 : Int32)), (0, .ref (a 31))]) hx hb d_C_hasLooseColumn_1 rfl hl (by decide) rfl (fun ls hl => ?_)
  exact L2 N σ (0 : Int32) H locs ls hP hD hS (lv_sub hl [1, 0] rfl) h
set_option maxRecDepth 100000 in
set_option maxHeartbeats 4000000 in
theorem c_C_firstFault (l : Launch) (D : va_G) (ca : Nat → ClassId) (g : Bool) (a : Nat → Nat) (tl : va_W) (N : Nat) (σ σ' : St) (r : Int32) (h : f_C_firstFault N σ = some (r, σ')) : CtI l y_C_firstFault ws_C_firstFault rm_C_firstFault 0 0 D vCl (tyX ca) nwX [.ref (a 31)] (wX g ca a σ ++ tl) (wX g ca a σ' ++ tl) r := by
  refine en_I (ws' := BIG) (by decide +kernel) rfl (Nat.le_of_ble_eq_true rfl) ?_
  intro p e s m below meth c A ls R args H locs hR hx hb hr hlk hml hown hB hK hN hP hD hA hS hl
  have hl : lv_has ls 1 [(0, .ref (a 31))] := hl
  unfold f_C_firstFault at h
  refine lv_aload_n hx hb d_C_firstFault_0 rfl (lv_at hl 0 rfl) ?_
  refine Xg_31_2 hx hb hB hown (hB _ m_322) hK hP d_C_firstFault_1 ?_
  refine Xg_18_0 hx hb hB hown (hB _ m_197) hK hP d_C_firstFault_4 ?_
  refine lv_if_eq (tgt := 20) hx hb d_C_firstFault_7 (by decide) (fun hc => ?_) (fun hc => ?_)
  · replace h := it_t h hc
    refine lv_iconst (v := (-1 : Int32)) hx hb d_C_firstFault_20 (by decide) ?_
    exact rf_I (w := (fun z => wX g ca a z ++ tl)) h hx hb hr hlk hK hP hD hS d_C_firstFault_21
  · replace h := it_f h hc
    refine lv_aload_n hx hb d_C_firstFault_10 rfl (lv_at hl 0 rfl) ?_
    refine Xg_31_2 hx hb hB hown (hB _ m_322) hK hP d_C_firstFault_11 ?_
    refine Xg_18_8 hx hb hB hown (hB _ m_224) hK hP d_C_firstFault_14 ?_
    refine lv_if_ne (tgt := 22) hx hb d_C_firstFault_17 (by decide) (fun hc => ?_) (fun hc => ?_)
    · replace h := it_f h hc
      refine lv_aload_n hx hb d_C_firstFault_22 rfl (lv_at hl 0 rfl) ?_
      obtain ⟨r1, s2, hr1, h⟩ := bd_some h
      refine go_VI (rest := []) ⟨hx, hb, hml, hown, hB⟩ nwX_ok (c_C_hasUnknownColumn l D ca g a tl N σ s2 r1 hr1) (cwx_V hB m_563 kw_C_hasUnknownColumn ⟨by rw [hR]; decide, by rw [hR]; decide⟩ rfl rfl) (va_recv hK hP (ci := 3) (q0 := 31) rfl rfl) hN hK hP hD hS hA rfl hl.1 rfl (Nat.le_of_ble_eq_true rfl) d_C_firstFault_23 ⟨by rw [hR]; exact Nat.le_of_ble_eq_true rfl, by rw [hR]; exact Nat.le_of_ble_eq_true rfl⟩ (fun H locs hP hD hS => ?_)
      refine lv_if_eq (tgt := 32) hx hb d_C_firstFault_26 (by decide) (fun hc => ?_) (fun hc => ?_)
      · replace h := it_t h hc
        refine lv_aload_n hx hb d_C_firstFault_32 rfl (lv_at hl 0 rfl) ?_
        obtain ⟨r3, s4, hr3, h⟩ := bd_some h
        refine go_VI (rest := []) ⟨hx, hb, hml, hown, hB⟩ nwX_ok (c_C_hasEarlyAggregate l D ca g a tl N s2 s4 r3 hr3) (cwx_V hB m_580 kw_C_hasEarlyAggregate ⟨by rw [hR]; decide, by rw [hR]; decide⟩ rfl rfl) (va_recv hK hP (ci := 3) (q0 := 31) rfl rfl) hN hK hP hD hS hA rfl hl.1 rfl (Nat.le_of_ble_eq_true rfl) d_C_firstFault_33 ⟨by rw [hR]; exact Nat.le_of_ble_eq_true rfl, by rw [hR]; exact Nat.le_of_ble_eq_true rfl⟩ (fun H locs hP hD hS => ?_)
        refine lv_if_eq (tgt := 42) hx hb d_C_firstFault_36 (by decide) (fun hc => ?_) (fun hc => ?_)
        · replace h := it_t h hc
          refine lv_aload_n hx hb d_C_firstFault_42 rfl (lv_at hl 0 rfl) ?_
          obtain ⟨r5, s6, hr5, h⟩ := bd_some h
          refine go_VI (rest := []) ⟨hx, hb, hml, hown, hB⟩ nwX_ok (c_C_isGrouped l D ca g a tl N s4 s6 r5 hr5) (cwx_V hB m_584 kw_C_isGrouped ⟨by rw [hR]; decide, by rw [hR]; decide⟩ rfl rfl) (va_recv hK hP (ci := 3) (q0 := 31) rfl rfl) hN hK hP hD hS hA rfl hl.1 rfl (Nat.le_of_ble_eq_true rfl) d_C_firstFault_43 ⟨by rw [hR]; exact Nat.le_of_ble_eq_true rfl, by rw [hR]; exact Nat.le_of_ble_eq_true rfl⟩ (fun H locs hP hD hS => ?_)
          refine lv_if_eq (tgt := 59) hx hb d_C_firstFault_46 (by decide) (fun hc => ?_) (fun hc => ?_)
          · replace h := it_t h hc
            refine lv_iconst (v := (0 : Int32)) hx hb d_C_firstFault_59 (by decide) ?_
            exact rf_I (w := (fun z => wX g ca a z ++ tl)) h hx hb hr hlk hK hP hD hS d_C_firstFault_60
          · replace h := it_f h hc
            refine lv_aload_n hx hb d_C_firstFault_49 rfl (lv_at hl 0 rfl) ?_
            obtain ⟨r7, s8, hr7, h⟩ := bd_some h
            refine go_VI (rest := []) ⟨hx, hb, hml, hown, hB⟩ nwX_ok (c_C_hasLooseColumn l D ca g a tl N s6 s8 r7 hr7) (cwx_V hB m_592 kw_C_hasLooseColumn ⟨by rw [hR]; decide, by rw [hR]; decide⟩ rfl rfl) (va_recv hK hP (ci := 3) (q0 := 31) rfl rfl) hN hK hP hD hS hA rfl hl.1 rfl (Nat.le_of_ble_eq_true rfl) d_C_firstFault_50 ⟨by rw [hR]; exact Nat.le_of_ble_eq_true rfl, by rw [hR]; exact Nat.le_of_ble_eq_true rfl⟩ (fun H locs hP hD hS => ?_)
            refine lv_if_eq (tgt := 59) hx hb d_C_firstFault_53 (by decide) (fun hc => ?_) (fun hc => ?_)
            · replace h := it_t h hc
              refine lv_iconst (v := (0 : Int32)) hx hb d_C_firstFault_59 (by decide) ?_
              exact rf_I (w := (fun z => wX g ca a z ++ tl)) h hx hb hr hlk hK hP hD hS d_C_firstFault_60
            · replace h := it_f h hc
              refine lv_bipush (v := (-13 : Int32)) hx hb d_C_firstFault_56 (by decide) ?_
              exact rf_I (w := (fun z => wX g ca a z ++ tl)) h hx hb hr hlk hK hP hD hS d_C_firstFault_58
        · replace h := it_f h hc
          refine lv_bipush (v := (-12 : Int32)) hx hb d_C_firstFault_39 (by decide) ?_
          exact rf_I (w := (fun z => wX g ca a z ++ tl)) h hx hb hr hlk hK hP hD hS d_C_firstFault_41
      · replace h := it_f h hc
        refine lv_bipush (v := (-11 : Int32)) hx hb d_C_firstFault_29 (by decide) ?_
        exact rf_I (w := (fun z => wX g ca a z ++ tl)) h hx hb hr hlk hK hP hD hS d_C_firstFault_31
    · replace h := it_t h hc
      refine lv_iconst (v := (-1 : Int32)) hx hb d_C_firstFault_20 (by decide) ?_
      exact rf_I (w := (fun z => wX g ca a z ++ tl)) h hx hb hr hlk hK hP hD hS d_C_firstFault_21
set_option maxRecDepth 100000 in
set_option maxHeartbeats 4000000 in
theorem c_V_compares (l : Launch) (D : va_G) (ca : Nat → ClassId) (g : Bool) (a : Nat → Nat) (tl : va_W) (N : Nat) (σ σ' : St) (x0 : Int32) (x1 : Int64) (x3 : Int64) (r : Int32) (h : f_V_compares N σ x0 x1 x3 = some (r, σ')) : CtI l y_V_compares ws_V_compares rm_V_compares 0 0 D vCl (tyX ca) nwX [.int x0, .long x1, .long x3] (wX g ca a σ ++ tl) (wX g ca a σ' ++ tl) r := by
  refine en_Z (ws' := BIG) (by decide +kernel) rfl (Nat.le_of_ble_eq_true rfl) ?_
  intro p e s m below meth c A ls R args H locs hR hx hb hr hlk hml hown hB hK hN hP hD hA hS hl
  have hl : lv_has ls 5 [(0, .int x0), (1, .long x1), (3, .long x3)] := hl
  unfold f_V_compares at h
  refine lv_iload_n hx hb d_V_compares_0 rfl (lv_at hl 0 rfl) ?_
  by_cases c5 : x0 = 5
  · replace h := it_t h c5
    refine lv_tableIn (tgt := 28) hx hb d_V_compares_1 (by rw [c5]; decide) (by rw [c5]; decide) (by rw [c5]; rfl) (by decide) ?_
    refine lv_lload_n hx hb d_V_compares_28 rfl (lv_at hl 1 rfl) ?_
    refine lv_lload_n hx hb d_V_compares_29 rfl (lv_at hl 2 rfl) ?_
    refine W.lcmp hx hb d_V_compares_30 ?_
    refine lv_if_ne (tgt := 38) hx hb d_V_compares_31 (by decide) (fun hc => ?_) (fun hc => ?_)
    · replace h := it_f h hc
      refine lv_iconst (v := (0 : Int32)) hx hb d_V_compares_38 (by decide) ?_
      exact rf_Z (w := (fun z => wX g ca a z ++ tl)) h hx hb hr hlk hK hP hD hS rfl d_V_compares_39
    · replace h := it_t h hc
      refine lv_iconst (v := (1 : Int32)) hx hb d_V_compares_34 (by decide) ?_
      refine lv_goto (tgt := 39) hx hb d_V_compares_35 (by decide) ?_
      exact rf_Z (w := (fun z => wX g ca a z ++ tl)) h hx hb hr hlk hK hP hD hS rfl d_V_compares_39
  replace h := it_f h c5
  by_cases c6 : x0 = 6
  · replace h := it_t h c6
    refine lv_tableIn (tgt := 40) hx hb d_V_compares_1 (by rw [c6]; decide) (by rw [c6]; decide) (by rw [c6]; rfl) (by decide) ?_
    refine lv_lload_n hx hb d_V_compares_40 rfl (lv_at hl 1 rfl) ?_
    refine lv_lload_n hx hb d_V_compares_41 rfl (lv_at hl 2 rfl) ?_
    refine W.lcmp hx hb d_V_compares_42 ?_
    refine lv_if_eq (tgt := 50) hx hb d_V_compares_43 (by decide) (fun hc => ?_) (fun hc => ?_)
    · replace h := it_t h hc
      refine lv_iconst (v := (0 : Int32)) hx hb d_V_compares_50 (by decide) ?_
      exact rf_Z (w := (fun z => wX g ca a z ++ tl)) h hx hb hr hlk hK hP hD hS rfl d_V_compares_51
    · replace h := it_f h hc
      refine lv_iconst (v := (1 : Int32)) hx hb d_V_compares_46 (by decide) ?_
      refine lv_goto (tgt := 51) hx hb d_V_compares_47 (by decide) ?_
      exact rf_Z (w := (fun z => wX g ca a z ++ tl)) h hx hb hr hlk hK hP hD hS rfl d_V_compares_51
  replace h := it_f h c6
  by_cases c7 : x0 = 7
  · replace h := it_t h c7
    refine lv_tableIn (tgt := 52) hx hb d_V_compares_1 (by rw [c7]; decide) (by rw [c7]; decide) (by rw [c7]; rfl) (by decide) ?_
    refine lv_lload_n hx hb d_V_compares_52 rfl (lv_at hl 1 rfl) ?_
    refine lv_lload_n hx hb d_V_compares_53 rfl (lv_at hl 2 rfl) ?_
    refine W.lcmp hx hb d_V_compares_54 ?_
    refine lv_if_ge (tgt := 62) hx hb d_V_compares_55 (by decide) (fun hc => ?_) (fun hc => ?_)
    · replace h := it_t h hc
      refine lv_iconst (v := (0 : Int32)) hx hb d_V_compares_62 (by decide) ?_
      exact rf_Z (w := (fun z => wX g ca a z ++ tl)) h hx hb hr hlk hK hP hD hS rfl d_V_compares_63
    · replace h := it_f h hc
      refine lv_iconst (v := (1 : Int32)) hx hb d_V_compares_58 (by decide) ?_
      refine lv_goto (tgt := 63) hx hb d_V_compares_59 (by decide) ?_
      exact rf_Z (w := (fun z => wX g ca a z ++ tl)) h hx hb hr hlk hK hP hD hS rfl d_V_compares_63
  replace h := it_f h c7
  have n5 := lv_neT c5 (show (5 : Int32).toInt = 5 by decide)
  have n6 := lv_neT c6 (show (6 : Int32).toInt = 6 by decide)
  have n7 := lv_neT c7 (show (7 : Int32).toInt = 7 by decide)
  refine lv_tableOut (tgt := 64) hx hb d_V_compares_1 (by omega) (by decide) ?_
  refine lv_lload_n hx hb d_V_compares_64 rfl (lv_at hl 1 rfl) ?_
  refine lv_lload_n hx hb d_V_compares_65 rfl (lv_at hl 2 rfl) ?_
  refine W.lcmp hx hb d_V_compares_66 ?_
  refine lv_if_gt (tgt := 74) hx hb d_V_compares_67 (by decide) (fun hc => ?_) (fun hc => ?_)
  · replace h := it_t h hc
    refine lv_iconst (v := (0 : Int32)) hx hb d_V_compares_74 (by decide) ?_
    exact rf_Z (w := (fun z => wX g ca a z ++ tl)) h hx hb hr hlk hK hP hD hS rfl d_V_compares_75
  · replace h := it_f h hc
    refine lv_iconst (v := (1 : Int32)) hx hb d_V_compares_70 (by decide) ?_
    refine lv_goto (tgt := 75) hx hb d_V_compares_71 (by decide) ?_
    exact rf_Z (w := (fun z => wX g ca a z ++ tl)) h hx hb hr hlk hK hP hD hS rfl d_V_compares_75
set_option maxRecDepth 100000 in
set_option maxHeartbeats 4000000 in
theorem c_V_truth_b (l : Launch) (D : va_G) (ca : Nat → ClassId) (g : Bool) (a : Nat → Nat) (tl : va_W) (N : Nat) (n : Nat) (RC : Nat → St → Int32 → Int32 → Option (Int32 × St)) (HR0 : ∀ (σ σ' : St) (x1 : Int32) (x2 : Int32) (r : Int32), RC 0 σ x1 x2 = some (r, σ') → CtI l y_V_value ws_V_value (rm_ev n) 0 0 D vCl (tyX ca) nwX [.ref (a 33), .int x1, .int x2] (wX g ca a σ ++ tl) (wX g ca a σ' ++ tl) r) (HR1 : ∀ (σ σ' : St) (x1 : Int32) (x2 : Int32) (r : Int32), RC 1 σ x1 x2 = some (r, σ') → CtI l y_V_truth ws_V_truth (rm_ev n) 0 0 D vCl (tyX ca) nwX [.ref (a 33), .int x1, .int x2] (wX g ca a σ ++ tl) (wX g ca a σ' ++ tl) r) (HR2 : ∀ (σ σ' : St) (x1 : Int32) (x2 : Int32) (r : Int32), RC 2 σ x1 x2 = some (r, σ') → CtI l y_V_operands ws_V_operands (rm_ev n) 0 0 D vCl (tyX ca) nwX [.ref (a 33), .int x1, .int x2] (wX g ca a σ ++ tl) (wX g ca a σ' ++ tl) r) (HR3 : ∀ (σ σ' : St) (x1 : Int32) (x2 : Int32) (r : Int32), RC 3 σ x1 x2 = some (r, σ') → CtI l y_V_junction ws_V_junction (rm_ev n) 0 0 D vCl (tyX ca) nwX [.ref (a 33), .int x1, .int x2] (wX g ca a σ ++ tl) (wX g ca a σ' ++ tl) r) (σ σ' : St) (x1 : Int32) (x2 : Int32) (r : Int32) (h : f_V_truth_b N g RC σ x1 x2 = some (r, σ')) : CtI l y_V_truth ws_V_truth (rm_ev (n + 1)) 0 0 D vCl (tyX ca) nwX [.ref (a 33), .int x1, .int x2] (wX g ca a σ ++ tl) (wX g ca a σ' ++ tl) r := by
  refine en_I (ws' := BIG) (by decide +kernel) rfl (Nat.le_of_ble_eq_true rfl) ?_
  intro p e s m below meth c A ls R args H locs hR hx hb hr hlk hml hown hB hK hN hP hD hA hS hl
  have hl : lv_has ls 5 [(0, .ref (a 33)), (1, .int x1), (2, .int x2)] := hl
  unfold f_V_truth_b at h
  refine lv_iload_n hx hb d_V_truth_0 rfl (lv_at hl 2 rfl) ?_
  refine lv_bipush (v := (60 : Int32)) hx hb d_V_truth_1 (by decide) ?_
  refine lv_icmp_ge (tgt := 17) hx hb d_V_truth_3 (by decide) (fun hc => ?_) (fun hc => ?_)
  · replace h := it_t h hc
    refine lv_iconst (v := (2 : Int32)) hx hb d_V_truth_17 (by decide) ?_
    exact rf_I (w := (fun z => wX g ca a z ++ tl)) h hx hb hr hlk hK hP hD hS d_V_truth_18
  · replace h := it_f h hc
    refine lv_aload_n hx hb d_V_truth_6 rfl (lv_at hl 0 rfl) ?_
    refine Xg_33_1 hx hb hB hown (hB _ m_340) hK hP d_V_truth_7 ?_
    refine lv_iload_n hx hb d_V_truth_10 rfl (lv_at hl 1 rfl) ?_
    obtain ⟨r1, s2, hr1, h⟩ := bd_some h
    refine go_VI (rest := []) ⟨hx, hb, hml, hown, hB⟩ nwX_ok (c_E_has l D ca g a tl N σ s2 x1 r1 hr1) (cwx_V hB m_684 kw_E_has ⟨by rw [hR]; simp only [rm_ev, rm_E_has]; omega, by rw [hR]; simp only [rm_ev, rm_E_has]; omega⟩ rfl rfl) (va_recv hK hP (ci := 5) (q0 := 6) rfl rfl) hN hK hP hD hS hA rfl hl.1 rfl (Nat.le_of_ble_eq_true rfl) d_V_truth_11 ⟨by rw [hR]; exact Nat.le_of_ble_eq_true rfl, by rw [hR]; exact Nat.le_of_ble_eq_true rfl⟩ (fun H locs hP hD hS => ?_)
    refine lv_if_ne (tgt := 19) hx hb d_V_truth_14 (by decide) (fun hc => ?_) (fun hc => ?_)
    · replace h := it_f h hc
      refine lv_aload_n hx hb d_V_truth_19 rfl (lv_at hl 0 rfl) ?_
      refine Xg_33_1 hx hb hB hown (hB _ m_340) hK hP d_V_truth_20 ?_
      refine Xg_6_2 hx hb hB hown (hB _ m_138) hK hP d_V_truth_23 ?_
      refine lv_iload_n hx hb d_V_truth_26 rfl (lv_at hl 1 rfl) ?_
      obtain ⟨hi, h⟩ := ckb_some h
      refine Xa_7 hx hb hK hP hi d_V_truth_27 ?_
      refine lv_istore_n (lv' := [(3, .int (ga s2 3 (x1).toNatClampNeg)), (0, .ref (a 33)), (1, .int x1), (2, .int x2)]) hx hb d_V_truth_28 rfl hl (by decide) rfl (fun ls hl => ?_)
      refine lv_iload_n hx hb d_V_truth_29 rfl (lv_at hl 0 rfl) ?_
      refine lv_bipush (v := (9 : Int32)) hx hb d_V_truth_30 (by decide) ?_
      have L41 : ∀ (σ : St) (x1 : Int32) (x2 : Int32) (H : Heap) (locs : List Loc) (ls : Array Slot), va_P D vCl (wX g ca a σ ++ tl) H → va_D A (wX g ca a σ ++ tl) → va_S A s.heap H locs → lv_has ls 5 [(0, .ref (a 33)), (1, .int x1), (2, .int x2)] → f_V_truth_41 N g RC σ x1 x2 = some (r, σ') → W p l e R s m args below meth c H locs 0 0 (MQ below (qb_QI D vCl (tyX ca) (wX g ca a σ' ++ tl) A r) args s 0 0 A) (F0 m 41 ls []) := by
        intro σ x1 x2 H locs ls hP hD hS hl h
        unfold f_V_truth_41 at h
        refine lv_aload_n hx hb d_V_truth_41 rfl (lv_at hl 0 rfl) ?_
        refine lv_iload_n hx hb d_V_truth_42 rfl (lv_at hl 1 rfl) ?_
        refine lv_iload_n hx hb d_V_truth_43 rfl (lv_at hl 2 rfl) ?_
        obtain ⟨r3, s4, hr3, h⟩ := bd_some h
        refine go_VI (rest := []) ⟨hx, hb, hml, hown, hB⟩ nwX_ok (HR3 σ s4 x1 x2 r3 hr3) (cwx_V hB m_685 kw_V_junction ⟨by rw [hR]; simp only [rm_ev]; omega, by rw [hR]; simp only [rm_ev]; omega⟩ rfl rfl) (va_recv hK hP (ci := 4) (q0 := 33) rfl rfl) hN hK hP hD hS hA rfl hl.1 rfl (Nat.le_of_ble_eq_true rfl) d_V_truth_44 ⟨by rw [hR]; exact Nat.le_of_ble_eq_true rfl, by rw [hR]; exact Nat.le_of_ble_eq_true rfl⟩ (fun H locs hP hD hS => ?_)
        exact rf_I (w := (fun z => wX g ca a z ++ tl)) h hx hb hr hlk hK hP hD hS d_V_truth_47
      refine lv_icmp_eq (tgt := 41) hx hb d_V_truth_32 (by decide) (fun hc => ?_) (fun hc => ?_)
      · replace h := it_t h hc
        exact L41 s2 x1 x2 H locs ls hP hD hS (lv_sub hl [1, 2, 3] rfl) h
      · replace h := it_f h hc
        refine lv_iload_n hx hb d_V_truth_35 rfl (lv_at hl 0 rfl) ?_
        refine lv_bipush (v := (10 : Int32)) hx hb d_V_truth_36 (by decide) ?_
        refine lv_icmp_ne (tgt := 48) hx hb d_V_truth_38 (by decide) (fun hc => ?_) (fun hc => ?_)
        · replace h := it_f h hc
          refine lv_iload_n hx hb d_V_truth_48 rfl (lv_at hl 0 rfl) ?_
          refine lv_bipush (v := (11 : Int32)) hx hb d_V_truth_49 (by decide) ?_
          refine lv_icmp_ne (tgt := 94) hx hb d_V_truth_51 (by decide) (fun hc => ?_) (fun hc => ?_)
          · replace h := it_f h hc
            refine lv_iload_n hx hb d_V_truth_94 rfl (lv_at hl 0 rfl) ?_
            refine lv_bipush (v := (12 : Int32)) hx hb d_V_truth_95 (by decide) ?_
            refine lv_icmp_ne (tgt := 139) hx hb d_V_truth_97 (by decide) (fun hc => ?_) (fun hc => ?_)
            · replace h := it_f h hc
              refine lv_aload_n hx hb d_V_truth_139 rfl (lv_at hl 1 rfl) ?_
              refine lv_iload_n hx hb d_V_truth_140 rfl (lv_at hl 2 rfl) ?_
              refine lv_iload_n hx hb d_V_truth_141 rfl (lv_at hl 3 rfl) ?_
              obtain ⟨r5, s6, hr5, h⟩ := bd_some h
              refine go_VI (rest := []) ⟨hx, hb, hml, hown, hB⟩ nwX_ok (HR2 s2 s6 x1 x2 r5 hr5) (cwx_V hB m_712 kw_V_operands ⟨by rw [hR]; simp only [rm_ev]; omega, by rw [hR]; simp only [rm_ev]; omega⟩ rfl rfl) (va_recv hK hP (ci := 4) (q0 := 33) rfl rfl) hN hK hP hD hS hA rfl hl.1 rfl (Nat.le_of_ble_eq_true rfl) d_V_truth_142 ⟨by rw [hR]; exact Nat.le_of_ble_eq_true rfl, by rw [hR]; exact Nat.le_of_ble_eq_true rfl⟩ (fun H locs hP hD hS => ?_)
              refine lv_istore (lv' := [(4, .int r5), (3, .int (ga s2 3 (x1).toNatClampNeg)), (0, .ref (a 33)), (1, .int x1), (2, .int x2)]) hx hb d_V_truth_145 hl (by decide) rfl (fun ls hl => ?_)
              refine lv_iload hx hb d_V_truth_147 (lv_at hl 0 rfl) ?_
              refine lv_if_ge (tgt := 157) hx hb d_V_truth_149 (by decide) (fun hc => ?_) (fun hc => ?_)
              · replace h := it_t h hc
                refine lv_iload hx hb d_V_truth_157 (lv_at hl 0 rfl) ?_
                refine lv_if_ne (tgt := 166) hx hb d_V_truth_159 (by decide) (fun hc => ?_) (fun hc => ?_)
                · replace h := it_f h hc
                  refine lv_iload_n hx hb d_V_truth_166 rfl (lv_at hl 1 rfl) ?_
                  refine lv_aload_n hx hb d_V_truth_167 rfl (lv_at hl 2 rfl) ?_
                  refine Xg_33_6 hx hb hB hown (hB _ m_348) hK hP d_V_truth_168 ?_
                  refine lv_aload_n hx hb d_V_truth_171 rfl (lv_at hl 2 rfl) ?_
                  refine Xg_33_5 hx hb hB hown (hB _ m_346) hK hP d_V_truth_172 ?_
                  obtain ⟨r7, s8, hr7, h⟩ := bd_some h
                  refine go_SI (rest := []) ⟨hx, hb, hml, hown, hB⟩ nwX_ok (c_V_compares l D ca g a tl N s6 s8 (ga s2 3 (x1).toNatClampNeg) (gl s6 1) (gl s6 0) r7 hr7) (cwx_S hB m_722 kw_V_compares ⟨by rw [hR]; simp only [rm_ev, rm_V_compares]; omega, by rw [hR]; simp only [rm_ev, rm_V_compares]; omega⟩ rfl rfl) hN hK hP hD hS hA rfl hl.1 rfl (Nat.le_of_ble_eq_true rfl) d_V_truth_175 ⟨by rw [hR]; exact Nat.le_of_ble_eq_true rfl, by rw [hR]; exact Nat.le_of_ble_eq_true rfl⟩ (fun H locs hP hD hS => ?_)
                  refine lv_if_eq (tgt := 185) hx hb d_V_truth_178 (by decide) (fun hc => ?_) (fun hc => ?_)
                  · replace h := it_t h hc
                    refine lv_iconst (v := (0 : Int32)) hx hb d_V_truth_185 (by decide) ?_
                    exact rf_I (w := (fun z => wX g ca a z ++ tl)) h hx hb hr hlk hK hP hD hS d_V_truth_186
                  · replace h := it_f h hc
                    refine lv_iconst (v := (1 : Int32)) hx hb d_V_truth_181 (by decide) ?_
                    refine lv_goto (tgt := 186) hx hb d_V_truth_182 (by decide) ?_
                    exact rf_I (w := (fun z => wX g ca a z ++ tl)) h hx hb hr hlk hK hP hD hS d_V_truth_186
                · replace h := it_t h hc
                  refine lv_iconst (v := (2 : Int32)) hx hb d_V_truth_162 (by decide) ?_
                  refine lv_goto (tgt := 186) hx hb d_V_truth_163 (by decide) ?_
                  exact rf_I (w := (fun z => wX g ca a z ++ tl)) h hx hb hr hlk hK hP hD hS d_V_truth_186
              · replace h := it_f h hc
                refine lv_iload hx hb d_V_truth_152 (lv_at hl 0 rfl) ?_
                refine lv_goto (tgt := 186) hx hb d_V_truth_154 (by decide) ?_
                exact rf_I (w := (fun z => wX g ca a z ++ tl)) h hx hb hr hlk hK hP hD hS d_V_truth_186
            · replace h := it_t h hc
              refine lv_aload_n hx hb d_V_truth_100 rfl (lv_at hl 1 rfl) ?_
              refine lv_aload_n hx hb d_V_truth_101 rfl (lv_at hl 1 rfl) ?_
              refine Xg_33_1 hx hb hB hown (hB _ m_340) hK hP d_V_truth_102 ?_
              refine Xg_6_4 hx hb hB hown (hB _ m_143) hK hP d_V_truth_105 ?_
              refine lv_iload_n hx hb d_V_truth_108 rfl (lv_at hl 2 rfl) ?_
              obtain ⟨hi, h⟩ := ckb_some h
              refine Xa_9 hx hb hK hP hi d_V_truth_109 ?_
              refine lv_iload_n hx hb d_V_truth_110 rfl (lv_at hl 3 rfl) ?_
              refine lv_iconst (v := (1 : Int32)) hx hb d_V_truth_111 (by decide) ?_
              refine lv_iadd hx hb d_V_truth_112 ?_
              obtain ⟨r9, s10, hr9, h⟩ := bd_some h
              refine go_VI (rest := []) ⟨hx, hb, hml, hown, hB⟩ nwX_ok (HR0 s2 s10 (ga s2 4 (x1).toNatClampNeg) (x2 + (1 : Int32)) r9 hr9) (cwx_V hB m_690 kw_V_value ⟨by rw [hR]; simp only [rm_ev]; omega, by rw [hR]; simp only [rm_ev]; omega⟩ rfl rfl) (va_recv hK hP (ci := 4) (q0 := 33) rfl rfl) hN hK hP hD hS hA rfl hl.1 rfl (Nat.le_of_ble_eq_true rfl) d_V_truth_113 ⟨by rw [hR]; exact Nat.le_of_ble_eq_true rfl, by rw [hR]; exact Nat.le_of_ble_eq_true rfl⟩ (fun H locs hP hD hS => ?_)
              refine lv_istore (lv' := [(4, .int r9), (3, .int (ga s2 3 (x1).toNatClampNeg)), (0, .ref (a 33)), (1, .int x1), (2, .int x2)]) hx hb d_V_truth_116 hl (by decide) rfl (fun ls hl => ?_)
              refine lv_iload hx hb d_V_truth_118 (lv_at hl 0 rfl) ?_
              refine lv_if_ge (tgt := 128) hx hb d_V_truth_120 (by decide) (fun hc => ?_) (fun hc => ?_)
              · replace h := it_t h hc
                refine lv_iload hx hb d_V_truth_128 (lv_at hl 0 rfl) ?_
                refine lv_if_ne (tgt := 137) hx hb d_V_truth_130 (by decide) (fun hc => ?_) (fun hc => ?_)
                · replace h := it_f h hc
                  refine lv_iconst (v := (0 : Int32)) hx hb d_V_truth_137 (by decide) ?_
                  exact rf_I (w := (fun z => wX g ca a z ++ tl)) h hx hb hr hlk hK hP hD hS d_V_truth_138
                · replace h := it_t h hc
                  refine lv_iconst (v := (1 : Int32)) hx hb d_V_truth_133 (by decide) ?_
                  refine lv_goto (tgt := 138) hx hb d_V_truth_134 (by decide) ?_
                  exact rf_I (w := (fun z => wX g ca a z ++ tl)) h hx hb hr hlk hK hP hD hS d_V_truth_138
              · replace h := it_f h hc
                refine lv_iload hx hb d_V_truth_123 (lv_at hl 0 rfl) ?_
                refine lv_goto (tgt := 138) hx hb d_V_truth_125 (by decide) ?_
                exact rf_I (w := (fun z => wX g ca a z ++ tl)) h hx hb hr hlk hK hP hD hS d_V_truth_138
          · replace h := it_t h hc
            refine lv_aload_n hx hb d_V_truth_54 rfl (lv_at hl 1 rfl) ?_
            refine lv_aload_n hx hb d_V_truth_55 rfl (lv_at hl 1 rfl) ?_
            refine Xg_33_1 hx hb hB hown (hB _ m_340) hK hP d_V_truth_56 ?_
            refine Xg_6_4 hx hb hB hown (hB _ m_143) hK hP d_V_truth_59 ?_
            refine lv_iload_n hx hb d_V_truth_62 rfl (lv_at hl 2 rfl) ?_
            obtain ⟨hi, h⟩ := ckb_some h
            refine Xa_9 hx hb hK hP hi d_V_truth_63 ?_
            refine lv_iload_n hx hb d_V_truth_64 rfl (lv_at hl 3 rfl) ?_
            refine lv_iconst (v := (1 : Int32)) hx hb d_V_truth_65 (by decide) ?_
            refine lv_iadd hx hb d_V_truth_66 ?_
            obtain ⟨r11, s12, hr11, h⟩ := bd_some h
            refine go_VI (rest := []) ⟨hx, hb, hml, hown, hB⟩ nwX_ok (HR1 s2 s12 (ga s2 4 (x1).toNatClampNeg) (x2 + (1 : Int32)) r11 hr11) (cwx_V hB m_689 kw_V_truth ⟨by rw [hR]; simp only [rm_ev]; omega, by rw [hR]; simp only [rm_ev]; omega⟩ rfl rfl) (va_recv hK hP (ci := 4) (q0 := 33) rfl rfl) hN hK hP hD hS hA rfl hl.1 rfl (Nat.le_of_ble_eq_true rfl) d_V_truth_67 ⟨by rw [hR]; exact Nat.le_of_ble_eq_true rfl, by rw [hR]; exact Nat.le_of_ble_eq_true rfl⟩ (fun H locs hP hD hS => ?_)
            refine lv_istore (lv' := [(4, .int r11), (3, .int (ga s2 3 (x1).toNatClampNeg)), (0, .ref (a 33)), (1, .int x1), (2, .int x2)]) hx hb d_V_truth_70 hl (by decide) rfl (fun ls hl => ?_)
            refine lv_iload hx hb d_V_truth_72 (lv_at hl 0 rfl) ?_
            refine lv_iconst (v := (1 : Int32)) hx hb d_V_truth_74 (by decide) ?_
            refine lv_icmp_ne (tgt := 82) hx hb d_V_truth_75 (by decide) (fun hc => ?_) (fun hc => ?_)
            · replace h := it_f h hc
              refine lv_iload hx hb d_V_truth_82 (lv_at hl 0 rfl) ?_
              refine lv_if_ne (tgt := 91) hx hb d_V_truth_84 (by decide) (fun hc => ?_) (fun hc => ?_)
              · replace h := it_f h hc
                refine lv_iload hx hb d_V_truth_91 (lv_at hl 0 rfl) ?_
                exact rf_I (w := (fun z => wX g ca a z ++ tl)) h hx hb hr hlk hK hP hD hS d_V_truth_93
              · replace h := it_t h hc
                refine lv_iconst (v := (1 : Int32)) hx hb d_V_truth_87 (by decide) ?_
                refine lv_goto (tgt := 93) hx hb d_V_truth_88 (by decide) ?_
                exact rf_I (w := (fun z => wX g ca a z ++ tl)) h hx hb hr hlk hK hP hD hS d_V_truth_93
            · replace h := it_t h hc
              refine lv_iconst (v := (0 : Int32)) hx hb d_V_truth_78 (by decide) ?_
              refine lv_goto (tgt := 93) hx hb d_V_truth_79 (by decide) ?_
              exact rf_I (w := (fun z => wX g ca a z ++ tl)) h hx hb hr hlk hK hP hD hS d_V_truth_93
        · replace h := it_t h hc
          exact L41 s2 x1 x2 H locs ls hP hD hS (lv_sub hl [1, 2, 3] rfl) h
    · replace h := it_t h hc
      refine lv_iconst (v := (2 : Int32)) hx hb d_V_truth_17 (by decide) ?_
      exact rf_I (w := (fun z => wX g ca a z ++ tl)) h hx hb hr hlk hK hP hD hS d_V_truth_18
set_option maxRecDepth 100000 in
set_option maxHeartbeats 4000000 in
theorem c_V_lookUp (l : Launch) (D : va_G) (ca : Nat → ClassId) (g : Bool) (a : Nat → Nat) (tl : va_W) (N : Nat) (σ σ' : St) (x1 : Int32) (r : Int32) (h : f_V_lookUp N σ x1 = some (r, σ')) : CtI l y_V_lookUp ws_V_lookUp rm_V_lookUp 0 0 D vCl (tyX ca) nwX [.ref (a 33), .int x1] (wX g ca a σ ++ tl) (wX g ca a σ' ++ tl) r := by
  refine en_I (ws' := BIG) (by decide +kernel) rfl (Nat.le_of_ble_eq_true rfl) ?_
  intro p e s m below meth c A ls R args H locs hR hx hb hr hlk hml hown hB hK hN hP hD hA hS hl
  have hl : lv_has ls 6 [(0, .ref (a 33)), (1, .int x1)] := hl
  unfold f_V_lookUp at h
  refine lv_iload_n hx hb d_V_lookUp_0 rfl (lv_at hl 1 rfl) ?_
  refine lv_iconst (v := (4 : Int32)) hx hb d_V_lookUp_1 (by decide) ?_
  refine lv_idiv hx hb d_V_lookUp_2 (by decide) ?_
  refine lv_istore_n (lv' := [(2, .int (x1 / (4 : Int32))), (0, .ref (a 33)), (1, .int x1)]) hx hb d_V_lookUp_3 rfl hl (by decide) rfl (fun ls hl => ?_)
  refine lv_iload_n hx hb d_V_lookUp_4 rfl (lv_at hl 2 rfl) ?_
  refine lv_iconst (v := (4 : Int32)) hx hb d_V_lookUp_5 (by decide) ?_
  refine lv_irem hx hb d_V_lookUp_6 (by decide) ?_
  refine lv_istore_n (lv' := [(3, .int (x1 - x1 / (4 : Int32) * (4 : Int32))), (2, .int (x1 / (4 : Int32))), (0, .ref (a 33)), (1, .int x1)]) hx hb d_V_lookUp_7 rfl hl (by decide) rfl (fun ls hl => ?_)
  refine lv_aload_n hx hb d_V_lookUp_8 rfl (lv_at hl 2 rfl) ?_
  refine Xg_33_3 hx hb hB hown (hB _ m_342) hK hP d_V_lookUp_9 ?_
  refine lv_iload_n hx hb d_V_lookUp_12 rfl (lv_at hl 1 rfl) ?_
  obtain ⟨hi, h⟩ := ckb_some h
  refine Xa_34 hx hb hK hP hi d_V_lookUp_13 ?_
  refine lv_istore (lv' := [(4, .int (ga σ 23 ((x1 / (4 : Int32))).toNatClampNeg)), (3, .int (x1 - x1 / (4 : Int32) * (4 : Int32))), (2, .int (x1 / (4 : Int32))), (0, .ref (a 33)), (1, .int x1)]) hx hb d_V_lookUp_14 hl (by decide) rfl (fun ls hl => ?_)
  refine lv_iload hx hb d_V_lookUp_16 (lv_at hl 0 rfl) ?_
  refine lv_iconst (v := (-1 : Int32)) hx hb d_V_lookUp_18 (by decide) ?_
  refine lv_icmp_ne (tgt := 24) hx hb d_V_lookUp_19 (by decide) (fun hc => ?_) (fun hc => ?_)
  · replace h := it_f h hc
    refine lv_aload_n hx hb d_V_lookUp_24 rfl (lv_at hl 3 rfl) ?_
    refine Xg_33_2 hx hb hB hown (hB _ m_341) hK hP d_V_lookUp_25 ?_
    refine Xg_18_1 hx hb hB hown (hB _ m_202) hK hP d_V_lookUp_28 ?_
    refine lv_iload_n hx hb d_V_lookUp_31 rfl (lv_at hl 2 rfl) ?_
    obtain ⟨hi, h⟩ := ckb_some h
    refine Xa_19 hx hb hK hP hi d_V_lookUp_32 ?_
    refine lv_bipush (v := (8 : Int32)) hx hb d_V_lookUp_33 (by decide) ?_
    refine lv_imul hx hb d_V_lookUp_35 ?_
    refine lv_iload hx hb d_V_lookUp_36 (lv_at hl 0 rfl) ?_
    refine lv_iadd hx hb d_V_lookUp_38 ?_
    refine lv_istore (lv' := [(5, .int (((ga σ 13 ((x1 / (4 : Int32))).toNatClampNeg) * (8 : Int32)) + (ga σ 23 ((x1 / (4 : Int32))).toNatClampNeg))), (4, .int (ga σ 23 ((x1 / (4 : Int32))).toNatClampNeg)), (3, .int (x1 - x1 / (4 : Int32) * (4 : Int32))), (2, .int (x1 / (4 : Int32))), (0, .ref (a 33)), (1, .int x1)]) hx hb d_V_lookUp_39 hl (by decide) rfl (fun ls hl => ?_)
    refine lv_aload_n hx hb d_V_lookUp_41 rfl (lv_at hl 4 rfl) ?_
    refine Xg_33_0 hx hb hB hown (hB _ m_339) hK hP d_V_lookUp_42 ?_
    refine Xg_1_4 hx hb hB hown (hB _ m_111) hK hP d_V_lookUp_45 ?_
    refine lv_iload hx hb d_V_lookUp_48 (lv_at hl 0 rfl) ?_
    obtain ⟨hi, h⟩ := ckb_some h
    refine Xa_5 hx hb hK hP hi d_V_lookUp_50 ?_
    refine lv_iload_n hx hb d_V_lookUp_51 rfl (lv_at hl 2 rfl) ?_
    refine lv_ishr hx hb d_V_lookUp_52 ?_
    refine lv_iconst (v := (1 : Int32)) hx hb d_V_lookUp_53 (by decide) ?_
    refine lv_iand hx hb d_V_lookUp_54 ?_
    refine lv_if_eq (tgt := 60) hx hb d_V_lookUp_55 (by decide) (fun hc => ?_) (fun hc => ?_)
    · replace h := it_t h hc
      refine lv_aload_n hx hb d_V_lookUp_60 rfl (lv_at hl 4 rfl) ?_
      refine lv_aload_n hx hb d_V_lookUp_61 rfl (lv_at hl 4 rfl) ?_
      refine Xg_33_0 hx hb hB hown (hB _ m_339) hK hP d_V_lookUp_62 ?_
      refine Xg_1_3 hx hb hB hown (hB _ m_109) hK hP d_V_lookUp_65 ?_
      refine lv_iload hx hb d_V_lookUp_68 (lv_at hl 0 rfl) ?_
      refine lv_iconst (v := (4 : Int32)) hx hb d_V_lookUp_70 (by decide) ?_
      refine lv_imul hx hb d_V_lookUp_71 ?_
      refine lv_iload_n hx hb d_V_lookUp_72 rfl (lv_at hl 2 rfl) ?_
      refine lv_iadd hx hb d_V_lookUp_73 ?_
      obtain ⟨hi, h⟩ := ckb_some h
      refine Xa_4 hx hb hK hP hi d_V_lookUp_74 ?_
      obtain ⟨s1, es1, h⟩ := nm_some h
      refine Xp_33_5 es1 hx hb hB hown (hB _ m_346) hK hP hD hS d_V_lookUp_75 (fun H locs hP hD hS => ?_)
      refine lv_iconst (v := (1 : Int32)) hx hb d_V_lookUp_78 (by decide) ?_
      exact rf_I (w := (fun z => wX g ca a z ++ tl)) h hx hb hr hlk hK hP hD hS d_V_lookUp_79
    · replace h := it_f h hc
      refine lv_iconst (v := (0 : Int32)) hx hb d_V_lookUp_58 (by decide) ?_
      exact rf_I (w := (fun z => wX g ca a z ++ tl)) h hx hb hr hlk hK hP hD hS d_V_lookUp_59
  · replace h := it_t h hc
    refine lv_iconst (v := (0 : Int32)) hx hb d_V_lookUp_22 (by decide) ?_
    exact rf_I (w := (fun z => wX g ca a z ++ tl)) h hx hb hr hlk hK hP hD hS d_V_lookUp_23
