set_option maxRecDepth 100000 in
set_option maxHeartbeats 4000000 in
theorem c_C_lateAggregates (l : Launch) (D : va_G) (ca : Nat → ClassId) (g : Bool) (a : Nat → Nat) (tl : va_W) (N : Nat) (σ σ' : St) (r : Int32) (h : f_C_lateAggregates N σ = some (r, σ')) : CtI l y_C_lateAggregates ws_C_lateAggregates rm_C_lateAggregates 0 0 D vCl (tyX ca) nwX [.ref (a 31)] (wX g ca a σ ++ tl) (wX g ca a σ' ++ tl) r := by
  refine en_I (ws' := BIG) (by decide +kernel) rfl (Nat.le_of_ble_eq_true rfl) ?_
  intro p e s m below meth c A ls R args H locs hR hx hb hr hlk hml hown hB hK hN hP hD hA hS hl
  have hl : lv_has ls 1 [(0, .ref (a 31))] := hl
  unfold f_C_lateAggregates at h
  refine lv_aload_n hx hb d_C_lateAggregates_0 rfl (lv_at hl 0 rfl) ?_
  refine lv_aload_n hx hb d_C_lateAggregates_1 rfl (lv_at hl 0 rfl) ?_
  refine Xg_31_2 hx hb hB hown (hB _ m_322) hK hP d_C_lateAggregates_2 ?_
  refine Xg_18_9 hx hb hB hown (hB _ m_230) hK hP d_C_lateAggregates_5 ?_
  refine lv_aload_n hx hb d_C_lateAggregates_8 rfl (lv_at hl 0 rfl) ?_
  refine Xg_31_2 hx hb hB hown (hB _ m_322) hK hP d_C_lateAggregates_9 ?_
  refine Xg_18_8 hx hb hB hown (hB _ m_224) hK hP d_C_lateAggregates_12 ?_
  refine lv_aload_n hx hb d_C_lateAggregates_15 rfl (lv_at hl 0 rfl) ?_
  refine Xg_31_1 hx hb hB hown (hB _ m_321) hK hP d_C_lateAggregates_16 ?_
  refine Xg_6_9 hx hb hB hown (hB _ m_153) hK hP d_C_lateAggregates_19 ?_
  obtain ⟨r1, s2, hr1, h⟩ := bd_some h
  refine go_VI (rest := []) ⟨hx, hb, hml, hown, hB⟩ nwX_ok (c_C_bitsIn_4 l D ca g a tl N σ s2 (gi σ 7) r1 hr1) (cwx_V hB m_576 kw_C_bitsIn ⟨by rw [hR]; decide, by rw [hR]; decide⟩ rfl rfl) (va_recv hK hP (ci := 3) (q0 := 31) rfl rfl) hN hK hP hD hS hA rfl hl.1 rfl (Nat.le_of_ble_eq_true rfl) d_C_lateAggregates_22 ⟨by rw [hR]; exact Nat.le_of_ble_eq_true rfl, by rw [hR]; exact Nat.le_of_ble_eq_true rfl⟩ (fun H locs hP hD hS => ?_)
  refine lv_aload_n hx hb d_C_lateAggregates_25 rfl (lv_at hl 0 rfl) ?_
  refine lv_aload_n hx hb d_C_lateAggregates_26 rfl (lv_at hl 0 rfl) ?_
  refine Xg_31_2 hx hb hB hown (hB _ m_322) hK hP d_C_lateAggregates_27 ?_
  refine Xg_18_5 hx hb hB hown (hB _ m_214) hK hP d_C_lateAggregates_30 ?_
  refine lv_aload_n hx hb d_C_lateAggregates_33 rfl (lv_at hl 0 rfl) ?_
  refine Xg_31_1 hx hb hB hown (hB _ m_321) hK hP d_C_lateAggregates_34 ?_
  refine Xg_6_9 hx hb hB hown (hB _ m_153) hK hP d_C_lateAggregates_37 ?_
  obtain ⟨r3, s4, hr3, h⟩ := bd_some h
  refine go_VI (rest := [.int r1]) ⟨hx, hb, hml, hown, hB⟩ nwX_ok (c_C_bitsAt_1 l D ca g a tl N s2 s4 (gi s2 5) r3 hr3) (cwx_V hB m_567 kw_C_bitsAt ⟨by rw [hR]; decide, by rw [hR]; decide⟩ rfl rfl) (va_recv hK hP (ci := 3) (q0 := 31) rfl rfl) hN hK hP hD hS hA rfl hl.1 rfl (Nat.le_of_ble_eq_true rfl) d_C_lateAggregates_40 ⟨by rw [hR]; exact Nat.le_of_ble_eq_true rfl, by rw [hR]; exact Nat.le_of_ble_eq_true rfl⟩ (fun H locs hP hD hS => ?_)
  refine lv_ior hx hb d_C_lateAggregates_43 ?_
  exact rf_I (w := (fun z => wX g ca a z ++ tl)) h hx hb hr hlk hK hP hD hS d_C_lateAggregates_44
set_option maxRecDepth 100000 in
set_option maxHeartbeats 4000000 in
theorem c_C_isGrouped (l : Launch) (D : va_G) (ca : Nat → ClassId) (g : Bool) (a : Nat → Nat) (tl : va_W) (N : Nat) (σ σ' : St) (r : Int32) (h : f_C_isGrouped N σ = some (r, σ')) : CtI l y_C_isGrouped ws_C_isGrouped rm_C_isGrouped 0 0 D vCl (tyX ca) nwX [.ref (a 31)] (wX g ca a σ ++ tl) (wX g ca a σ' ++ tl) r := by
  refine en_Z (ws' := BIG) (by decide +kernel) rfl (Nat.le_of_ble_eq_true rfl) ?_
  intro p e s m below meth c A ls R args H locs hR hx hb hr hlk hml hown hB hK hN hP hD hA hS hl
  have hl : lv_has ls 1 [(0, .ref (a 31))] := hl
  unfold f_C_isGrouped at h
  refine lv_aload_n hx hb d_C_isGrouped_0 rfl (lv_at hl 0 rfl) ?_
  refine Xg_31_2 hx hb hB hown (hB _ m_322) hK hP d_C_isGrouped_1 ?_
  refine Xg_18_6 hx hb hB hown (hB _ m_219) hK hP d_C_isGrouped_4 ?_
  refine lv_if_gt (tgt := 28) hx hb d_C_isGrouped_7 (by decide) (fun hc => ?_) (fun hc => ?_)
  · replace h := it_t h hc
    refine lv_iconst (v := (1 : Int32)) hx hb d_C_isGrouped_28 (by decide) ?_
    refine lv_goto (tgt := 33) hx hb d_C_isGrouped_29 (by decide) ?_
    exact rf_Z (w := (fun z => wX g ca a z ++ tl)) h hx hb hr hlk hK hP hD hS rfl d_C_isGrouped_33
  · replace h := it_f h hc
    refine lv_aload_n hx hb d_C_isGrouped_10 rfl (lv_at hl 0 rfl) ?_
    refine Xg_31_2 hx hb hB hown (hB _ m_322) hK hP d_C_isGrouped_11 ?_
    refine Xg_18_5 hx hb hB hown (hB _ m_214) hK hP d_C_isGrouped_14 ?_
    refine lv_iconst (v := (-1 : Int32)) hx hb d_C_isGrouped_17 (by decide) ?_
    refine lv_icmp_ne (tgt := 28) hx hb d_C_isGrouped_18 (by decide) (fun hc => ?_) (fun hc => ?_)
    · replace h := it_f h hc
      refine lv_iconst (v := (1 : Int32)) hx hb d_C_isGrouped_28 (by decide) ?_
      refine lv_goto (tgt := 33) hx hb d_C_isGrouped_29 (by decide) ?_
      exact rf_Z (w := (fun z => wX g ca a z ++ tl)) h hx hb hr hlk hK hP hD hS rfl d_C_isGrouped_33
    · replace h := it_t h hc
      refine lv_aload_n hx hb d_C_isGrouped_21 rfl (lv_at hl 0 rfl) ?_
      obtain ⟨r1, s2, hr1, h⟩ := bd_some h
      refine go_VI (rest := []) ⟨hx, hb, hml, hown, hB⟩ nwX_ok (c_C_lateAggregates l D ca g a tl N σ s2 r1 hr1) (cwx_V hB m_588 kw_C_lateAggregates ⟨by rw [hR]; decide, by rw [hR]; decide⟩ rfl rfl) (va_recv hK hP (ci := 3) (q0 := 31) rfl rfl) hN hK hP hD hS hA rfl hl.1 rfl (Nat.le_of_ble_eq_true rfl) d_C_isGrouped_22 ⟨by rw [hR]; exact Nat.le_of_ble_eq_true rfl, by rw [hR]; exact Nat.le_of_ble_eq_true rfl⟩ (fun H locs hP hD hS => ?_)
      refine lv_if_eq (tgt := 32) hx hb d_C_isGrouped_25 (by decide) (fun hc => ?_) (fun hc => ?_)
      · replace h := it_t h hc
        refine lv_iconst (v := (0 : Int32)) hx hb d_C_isGrouped_32 (by decide) ?_
        exact rf_Z (w := (fun z => wX g ca a z ++ tl)) h hx hb hr hlk hK hP hD hS rfl d_C_isGrouped_33
      · replace h := it_f h hc
        refine lv_iconst (v := (1 : Int32)) hx hb d_C_isGrouped_28 (by decide) ?_
        refine lv_goto (tgt := 33) hx hb d_C_isGrouped_29 (by decide) ?_
        exact rf_Z (w := (fun z => wX g ca a z ++ tl)) h hx hb hr hlk hK hP hD hS rfl d_C_isGrouped_33
set_option maxRecDepth 100000 in
set_option maxHeartbeats 4000000 in
theorem c_E_isAlike (l : Launch) (D : va_G) (ca : Nat → ClassId) (g : Bool) (a : Nat → Nat) (tl : va_W) (N : Nat) (σ σ' : St) (x1 : Int32) (x2 : Int32) (r : Int32) (h : f_E_isAlike N σ x1 x2 = some (r, σ')) : CtI l y_E_isAlike ws_E_isAlike rm_E_isAlike 0 0 D vCl (tyX ca) nwX [.ref (a 6), .int x1, .int x2] (wX g ca a σ ++ tl) (wX g ca a σ' ++ tl) r := by
  refine en_Z (ws' := BIG) (by decide +kernel) rfl (Nat.le_of_ble_eq_true rfl) ?_
  intro p e s m below meth c A ls R args H locs hR hx hb hr hlk hml hown hB hK hN hP hD hA hS hl
  have hl : lv_has ls 3 [(0, .ref (a 6)), (1, .int x1), (2, .int x2)] := hl
  unfold f_E_isAlike at h
  refine lv_aload_n hx hb d_E_isAlike_0 rfl (lv_at hl 0 rfl) ?_
  refine Xg_6_7 hx hb hB hown (hB _ m_149) hK hP d_E_isAlike_1 ?_
  refine lv_iload_n hx hb d_E_isAlike_4 rfl (lv_at hl 1 rfl) ?_
  obtain ⟨hi, h⟩ := ckb_some h
  refine Xa_12 hx hb hK hP hi d_E_isAlike_5 ?_
  refine lv_aload_n hx hb d_E_isAlike_6 rfl (lv_at hl 0 rfl) ?_
  refine Xg_6_7 hx hb hB hown (hB _ m_149) hK hP d_E_isAlike_7 ?_
  refine lv_iload_n hx hb d_E_isAlike_10 rfl (lv_at hl 2 rfl) ?_
  obtain ⟨hi, h⟩ := ckb_some h
  refine Xa_12 hx hb hK hP hi d_E_isAlike_11 ?_
  refine lv_icmp_ne (tgt := 19) hx hb d_E_isAlike_12 (by decide) (fun hc => ?_) (fun hc => ?_)
  · replace h := it_f h hc
    refine lv_iconst (v := (0 : Int32)) hx hb d_E_isAlike_19 (by decide) ?_
    exact rf_Z (w := (fun z => wX g ca a z ++ tl)) h hx hb hr hlk hK hP hD hS rfl d_E_isAlike_20
  · replace h := it_t h hc
    refine lv_iconst (v := (1 : Int32)) hx hb d_E_isAlike_15 (by decide) ?_
    refine lv_goto (tgt := 20) hx hb d_E_isAlike_16 (by decide) ?_
    exact rf_Z (w := (fun z => wX g ca a z ++ tl)) h hx hb hr hlk hK hP hD hS rfl d_E_isAlike_20
set_option maxRecDepth 100000 in
set_option maxHeartbeats 4000000 in
theorem c_C_isLikeGroup (l : Launch) (D : va_G) (ca : Nat → ClassId) (g : Bool) (a : Nat → Nat) (tl : va_W) (N : Nat) (σ σ' : St) (x1 : Int32) (r : Int32) (h : f_C_isLikeGroup N σ x1 = some (r, σ')) : CtI l y_C_isLikeGroup ws_C_isLikeGroup rm_C_isLikeGroup 0 0 D vCl (tyX ca) nwX [.ref (a 31), .int x1] (wX g ca a σ ++ tl) (wX g ca a σ' ++ tl) r := by
  refine en_Z (ws' := BIG) (by decide +kernel) rfl (Nat.le_of_ble_eq_true rfl) ?_
  intro p e s m below meth c A ls R args H locs hR hx hb hr hlk hml hown hB hK hN hP hD hA hS hl
  have hl : lv_has ls 3 [(0, .ref (a 31)), (1, .int x1)] := hl
  unfold f_C_isLikeGroup at h
  refine lv_iconst (v := (0 : Int32)) hx hb d_C_isLikeGroup_0 (by decide) ?_
  have L2 : ∀ (n : Nat) (σ : St) (x1 : Int32) (x2 : Int32) (H : Heap) (locs : List Loc) (ls : Array Slot), va_P D vCl (wX g ca a σ ++ tl) H → va_D A (wX g ca a σ ++ tl) → va_S A s.heap H locs → lv_has ls 3 [(0, .ref (a 31)), (1, .int x1), (2, .int x2)] → f_C_isLikeGroup_2 N n σ x1 x2 = some (r, σ') → W p l e R s m args below meth c H locs 0 0 (MQ below (qb_QI D vCl (tyX ca) (wX g ca a σ' ++ tl) A r) args s 0 0 A) (F0 m 2 ls []) := by
    intro n
    induction n with
    | zero => intro σ x1 x2 H locs ls hP hD hS hl h; cases h
    | succ n ih2 =>
        intro σ x1 x2 H locs ls hP hD hS hl h
        obtain ⟨K2, eK2⟩ : ∃ K, K = f_C_isLikeGroup_2 N n := ⟨_, rfl⟩
        rw [← eK2] at ih2
        replace h : f_C_isLikeGroup_2_b N K2 σ x1 x2 = some (r, σ') := by rw [eK2]; exact h
        unfold f_C_isLikeGroup_2_b at h
        refine lv_iload_n hx hb d_C_isLikeGroup_2 rfl (lv_at hl 2 rfl) ?_
        refine lv_aload_n hx hb d_C_isLikeGroup_3 rfl (lv_at hl 0 rfl) ?_
        refine Xg_31_2 hx hb hB hown (hB _ m_322) hK hP d_C_isLikeGroup_4 ?_
        refine Xg_18_6 hx hb hB hown (hB _ m_219) hK hP d_C_isLikeGroup_7 ?_
        refine lv_icmp_ge (tgt := 41) hx hb d_C_isLikeGroup_10 (by decide) (fun hc => ?_) (fun hc => ?_)
        · replace h := it_t h hc
          refine lv_iconst (v := (0 : Int32)) hx hb d_C_isLikeGroup_41 (by decide) ?_
          exact rf_Z (w := (fun z => wX g ca a z ++ tl)) h hx hb hr hlk hK hP hD hS rfl d_C_isLikeGroup_42
        · replace h := it_f h hc
          refine lv_aload_n hx hb d_C_isLikeGroup_13 rfl (lv_at hl 0 rfl) ?_
          refine Xg_31_1 hx hb hB hown (hB _ m_321) hK hP d_C_isLikeGroup_14 ?_
          refine lv_iload_n hx hb d_C_isLikeGroup_17 rfl (lv_at hl 1 rfl) ?_
          refine lv_aload_n hx hb d_C_isLikeGroup_18 rfl (lv_at hl 0 rfl) ?_
          refine Xg_31_2 hx hb hB hown (hB _ m_322) hK hP d_C_isLikeGroup_19 ?_
          refine Xg_18_7 hx hb hB hown (hB _ m_222) hK hP d_C_isLikeGroup_22 ?_
          refine lv_iload_n hx hb d_C_isLikeGroup_25 rfl (lv_at hl 2 rfl) ?_
          obtain ⟨hi, h⟩ := ckb_some h
          refine Xa_22 hx hb hK hP hi d_C_isLikeGroup_26 ?_
          obtain ⟨r1, s2, hr1, h⟩ := bd_some h
          refine go_VI (rest := []) ⟨hx, hb, hml, hown, hB⟩ nwX_ok (c_E_isAlike l D ca g a tl N σ s2 x1 (ga σ 16 (x2).toNatClampNeg) r1 hr1) (cwx_V hB m_600 kw_E_isAlike ⟨by rw [hR]; decide, by rw [hR]; decide⟩ rfl rfl) (va_recv hK hP (ci := 5) (q0 := 6) rfl rfl) hN hK hP hD hS hA rfl hl.1 rfl (Nat.le_of_ble_eq_true rfl) d_C_isLikeGroup_27 ⟨by rw [hR]; exact Nat.le_of_ble_eq_true rfl, by rw [hR]; exact Nat.le_of_ble_eq_true rfl⟩ (fun H locs hP hD hS => ?_)
          refine lv_if_eq (tgt := 35) hx hb d_C_isLikeGroup_30 (by decide) (fun hc => ?_) (fun hc => ?_)
          · replace h := it_t h hc
            refine lv_iinc (v := (x2 + 1)) (lv' := [(2, .int (x2 + 1)), (0, .ref (a 31)), (1, .int x1)]) hx hb d_C_isLikeGroup_35 hl (k := 2) rfl rfl (by decide) rfl (fun ls hl => ?_)
            refine lv_goto (tgt := 2) hx hb d_C_isLikeGroup_38 (by decide) ?_
            exact ih2 s2 x1 (x2 + 1) H locs ls hP hD hS (lv_sub hl [1, 2, 0] rfl) h
          · replace h := it_f h hc
            refine lv_iconst (v := (1 : Int32)) hx hb d_C_isLikeGroup_33 (by decide) ?_
            exact rf_Z (w := (fun z => wX g ca a z ++ tl)) h hx hb hr hlk hK hP hD hS rfl d_C_isLikeGroup_34
  refine lv_istore_n (lv' := [(2, .int (0 : Int32)), (0, .ref (a 31)), (1, .int x1)]) hx hb d_C_isLikeGroup_1 rfl hl (by decide) rfl (fun ls hl => ?_)
  exact L2 N σ x1 (0 : Int32) H locs ls hP hD hS (lv_sub hl [1, 2, 0] rfl) h
set_option maxRecDepth 100000 in
set_option maxHeartbeats 4000000 in
theorem c_C_isLoose (l : Launch) (D : va_G) (ca : Nat → ClassId) (g : Bool) (a : Nat → Nat) (tl : va_W) (N : Nat) (σ σ' : St) (x1 : Int32) (r : Int32) (h : f_C_isLoose N σ x1 = some (r, σ')) : CtI l y_C_isLoose ws_C_isLoose rm_C_isLoose 0 0 D vCl (tyX ca) nwX [.ref (a 31), .int x1] (wX g ca a σ ++ tl) (wX g ca a σ' ++ tl) r := by
  refine en_Z (ws' := BIG) (by decide +kernel) rfl (Nat.le_of_ble_eq_true rfl) ?_
  intro p e s m below meth c A ls R args H locs hR hx hb hr hlk hml hown hB hK hN hP hD hA hS hl
  have hl : lv_has ls 5 [(0, .ref (a 31)), (1, .int x1)] := hl
  unfold f_C_isLoose at h
  refine lv_aload_n hx hb d_C_isLoose_0 rfl (lv_at hl 0 rfl) ?_
  refine Xg_31_1 hx hb hB hown (hB _ m_321) hK hP d_C_isLoose_1 ?_
  refine Xg_6_2 hx hb hB hown (hB _ m_139) hK hP d_C_isLoose_4 ?_
  refine lv_iload_n hx hb d_C_isLoose_7 rfl (lv_at hl 1 rfl) ?_
  obtain ⟨hi, h⟩ := ckb_some h
  refine Xa_7 hx hb hK hP hi d_C_isLoose_8 ?_
  refine lv_istore_n (lv' := [(2, .int (ga σ 3 (x1).toNatClampNeg)), (0, .ref (a 31)), (1, .int x1)]) hx hb d_C_isLoose_9 rfl hl (by decide) rfl (fun ls hl => ?_)
  refine lv_iload_n hx hb d_C_isLoose_10 rfl (lv_at hl 0 rfl) ?_
  refine lv_bipush (v := (15 : Int32)) hx hb d_C_isLoose_11 (by decide) ?_
  have L22 : ∀ (σ : St) (x2 : Int32) (H : Heap) (locs : List Loc) (ls : Array Slot), va_P D vCl (wX g ca a σ ++ tl) H → va_D A (wX g ca a σ ++ tl) → va_S A s.heap H locs → lv_has ls 5 [(2, .int x2)] → f_C_isLoose_22 N σ x2 = some (r, σ') → W p l e R s m args below meth c H locs 0 0 (MQ below (qb_QI D vCl (tyX ca) (wX g ca a σ' ++ tl) A r) args s 0 0 A) (F0 m 22 ls []) := by
    intro σ x2 H locs ls hP hD hS hl h
    unfold f_C_isLoose_22 at h
    refine lv_iload_n hx hb d_C_isLoose_22 rfl (lv_at hl 0 rfl) ?_
    refine lv_bipush (v := (15 : Int32)) hx hb d_C_isLoose_23 (by decide) ?_
    refine lv_icmp_ne (tgt := 32) hx hb d_C_isLoose_25 (by decide) (fun hc => ?_) (fun hc => ?_)
    · replace h := it_f h hc
      refine lv_iconst (v := (0 : Int32)) hx hb d_C_isLoose_32 (by decide) ?_
      exact rf_Z (w := (fun z => wX g ca a z ++ tl)) h hx hb hr hlk hK hP hD hS rfl d_C_isLoose_33
    · replace h := it_t h hc
      refine lv_iconst (v := (1 : Int32)) hx hb d_C_isLoose_28 (by decide) ?_
      refine lv_goto (tgt := 33) hx hb d_C_isLoose_29 (by decide) ?_
      exact rf_Z (w := (fun z => wX g ca a z ++ tl)) h hx hb hr hlk hK hP hD hS rfl d_C_isLoose_33
  refine lv_icmp_eq (tgt := 22) hx hb d_C_isLoose_13 (by decide) (fun hc => ?_) (fun hc => ?_)
  · replace h := it_t h hc
    exact L22 σ (ga σ 3 (x1).toNatClampNeg) H locs ls hP hD hS (lv_sub hl [0] rfl) h
  · replace h := it_f h hc
    refine lv_iload_n hx hb d_C_isLoose_16 rfl (lv_at hl 0 rfl) ?_
    refine lv_bipush (v := (16 : Int32)) hx hb d_C_isLoose_17 (by decide) ?_
    refine lv_icmp_ne (tgt := 34) hx hb d_C_isLoose_19 (by decide) (fun hc => ?_) (fun hc => ?_)
    · replace h := it_f h hc
      refine lv_aload_n hx hb d_C_isLoose_34 rfl (lv_at hl 1 rfl) ?_
      refine Xg_31_1 hx hb hB hown (hB _ m_321) hK hP d_C_isLoose_35 ?_
      refine Xg_6_4 hx hb hB hown (hB _ m_144) hK hP d_C_isLoose_38 ?_
      refine lv_iload_n hx hb d_C_isLoose_41 rfl (lv_at hl 2 rfl) ?_
      obtain ⟨hi, h⟩ := ckb_some h
      refine Xa_9 hx hb hK hP hi d_C_isLoose_42 ?_
      refine lv_istore_n (lv' := [(3, .int (ga σ 4 (x1).toNatClampNeg)), (2, .int (ga σ 3 (x1).toNatClampNeg)), (0, .ref (a 31)), (1, .int x1)]) hx hb d_C_isLoose_43 rfl hl (by decide) rfl (fun ls hl => ?_)
      refine lv_aload_n hx hb d_C_isLoose_44 rfl (lv_at hl 2 rfl) ?_
      refine Xg_31_1 hx hb hB hown (hB _ m_321) hK hP d_C_isLoose_45 ?_
      refine Xg_6_5 hx hb hB hown (hB _ m_147) hK hP d_C_isLoose_48 ?_
      refine lv_iload_n hx hb d_C_isLoose_51 rfl (lv_at hl 3 rfl) ?_
      obtain ⟨hi, h⟩ := ckb_some h
      refine Xa_10 hx hb hK hP hi d_C_isLoose_52 ?_
      refine lv_istore (lv' := [(4, .int (ga σ 5 (x1).toNatClampNeg)), (3, .int (ga σ 4 (x1).toNatClampNeg)), (2, .int (ga σ 3 (x1).toNatClampNeg)), (0, .ref (a 31)), (1, .int x1)]) hx hb d_C_isLoose_53 hl (by decide) rfl (fun ls hl => ?_)
      refine lv_aload_n hx hb d_C_isLoose_55 rfl (lv_at hl 3 rfl) ?_
      refine Xg_31_1 hx hb hB hown (hB _ m_321) hK hP d_C_isLoose_56 ?_
      refine lv_iload_n hx hb d_C_isLoose_59 rfl (lv_at hl 1 rfl) ?_
      obtain ⟨r1, s2, hr1, h⟩ := bd_some h
      refine go_VI (rest := []) ⟨hx, hb, hml, hown, hB⟩ nwX_ok (c_E_has l D ca g a tl N σ s2 (ga σ 4 (x1).toNatClampNeg) r1 hr1) (cwx_V hB m_571 kw_E_has ⟨by rw [hR]; decide, by rw [hR]; decide⟩ rfl rfl) (va_recv hK hP (ci := 5) (q0 := 6) rfl rfl) hN hK hP hD hS hA rfl hl.1 rfl (Nat.le_of_ble_eq_true rfl) d_C_isLoose_60 ⟨by rw [hR]; exact Nat.le_of_ble_eq_true rfl, by rw [hR]; exact Nat.le_of_ble_eq_true rfl⟩ (fun H locs hP hD hS => ?_)
      have L75 : ∀ (σ : St) (x4 : Int32) (H : Heap) (locs : List Loc) (ls : Array Slot), va_P D vCl (wX g ca a σ ++ tl) H → va_D A (wX g ca a σ ++ tl) → va_S A s.heap H locs → lv_has ls 5 [(0, .ref (a 31)), (4, .int x4)] → f_C_isLoose_75 N σ x4 = some (r, σ') → W p l e R s m args below meth c H locs 0 0 (MQ below (qb_QI D vCl (tyX ca) (wX g ca a σ' ++ tl) A r) args s 0 0 A) (F0 m 75 ls []) := by
        intro σ x4 H locs ls hP hD hS hl h
        unfold f_C_isLoose_75 at h
        refine lv_aload_n hx hb d_C_isLoose_75 rfl (lv_at hl 0 rfl) ?_
        refine Xg_31_1 hx hb hB hown (hB _ m_321) hK hP d_C_isLoose_76 ?_
        refine lv_iload hx hb d_C_isLoose_79 (lv_at hl 1 rfl) ?_
        obtain ⟨r3, s4, hr3, h⟩ := bd_some h
        refine go_VI (rest := []) ⟨hx, hb, hml, hown, hB⟩ nwX_ok (c_E_has l D ca g a tl N σ s4 x4 r3 hr3) (cwx_V hB m_571 kw_E_has ⟨by rw [hR]; decide, by rw [hR]; decide⟩ rfl rfl) (va_recv hK hP (ci := 5) (q0 := 6) rfl rfl) hN hK hP hD hS hA rfl hl.1 rfl (Nat.le_of_ble_eq_true rfl) d_C_isLoose_81 ⟨by rw [hR]; exact Nat.le_of_ble_eq_true rfl, by rw [hR]; exact Nat.le_of_ble_eq_true rfl⟩ (fun H locs hP hD hS => ?_)
        refine lv_if_eq (tgt := 101) hx hb d_C_isLoose_84 (by decide) (fun hc => ?_) (fun hc => ?_)
        · replace h := it_t h hc
          refine lv_iconst (v := (0 : Int32)) hx hb d_C_isLoose_101 (by decide) ?_
          exact rf_Z (w := (fun z => wX g ca a z ++ tl)) h hx hb hr hlk hK hP hD hS rfl d_C_isLoose_102
        · replace h := it_f h hc
          refine lv_aload_n hx hb d_C_isLoose_87 rfl (lv_at hl 0 rfl) ?_
          refine Xg_31_3 hx hb hB hown (hB _ m_323) hK hP d_C_isLoose_88 ?_
          refine lv_iload hx hb d_C_isLoose_91 (lv_at hl 1 rfl) ?_
          obtain ⟨hi, h⟩ := ckb_some h
          refine Xa_32 hx hb hK hP hi d_C_isLoose_93 ?_
          refine lv_if_eq (tgt := 101) hx hb d_C_isLoose_94 (by decide) (fun hc => ?_) (fun hc => ?_)
          · replace h := it_t h hc
            refine lv_iconst (v := (0 : Int32)) hx hb d_C_isLoose_101 (by decide) ?_
            exact rf_Z (w := (fun z => wX g ca a z ++ tl)) h hx hb hr hlk hK hP hD hS rfl d_C_isLoose_102
          · replace h := it_f h hc
            refine lv_iconst (v := (1 : Int32)) hx hb d_C_isLoose_97 (by decide) ?_
            refine lv_goto (tgt := 102) hx hb d_C_isLoose_98 (by decide) ?_
            exact rf_Z (w := (fun z => wX g ca a z ++ tl)) h hx hb hr hlk hK hP hD hS rfl d_C_isLoose_102
      refine lv_if_eq (tgt := 75) hx hb d_C_isLoose_63 (by decide) (fun hc => ?_) (fun hc => ?_)
      · replace h := it_t h hc
        exact L75 s2 (ga σ 5 (x1).toNatClampNeg) H locs ls hP hD hS (lv_sub hl [3, 0] rfl) h
      · replace h := it_f h hc
        refine lv_aload_n hx hb d_C_isLoose_66 rfl (lv_at hl 3 rfl) ?_
        refine Xg_31_3 hx hb hB hown (hB _ m_323) hK hP d_C_isLoose_67 ?_
        refine lv_iload_n hx hb d_C_isLoose_70 rfl (lv_at hl 1 rfl) ?_
        obtain ⟨hi, h⟩ := ckb_some h
        refine Xa_32 hx hb hK hP hi d_C_isLoose_71 ?_
        refine lv_if_ne (tgt := 97) hx hb d_C_isLoose_72 (by decide) (fun hc => ?_) (fun hc => ?_)
        · replace h := it_f h hc
          refine lv_iconst (v := (1 : Int32)) hx hb d_C_isLoose_97 (by decide) ?_
          refine lv_goto (tgt := 102) hx hb d_C_isLoose_98 (by decide) ?_
          exact rf_Z (w := (fun z => wX g ca a z ++ tl)) h hx hb hr hlk hK hP hD hS rfl d_C_isLoose_102
        · replace h := it_t h hc
          exact L75 s2 (ga σ 5 (x1).toNatClampNeg) H locs ls hP hD hS (lv_sub hl [3, 0] rfl) h
    · replace h := it_t h hc
      exact L22 σ (ga σ 3 (x1).toNatClampNeg) H locs ls hP hD hS (lv_sub hl [0] rfl) h
set_option maxRecDepth 100000 in
set_option maxHeartbeats 4000000 in
theorem c_C_hasLooseColumn (l : Launch) (D : va_G) (ca : Nat → ClassId) (g : Bool) (a : Nat → Nat) (tl : va_W) (N : Nat) (σ σ' : St) (r : Int32) (h : f_C_hasLooseColumn N σ = some (r, σ')) : CtI l y_C_hasLooseColumn ws_C_hasLooseColumn rm_C_hasLooseColumn 0 0 D vCl (tyX ca) nwX [.ref (a 31)] (wX g ca a σ ++ tl) (wX g ca a σ' ++ tl) r := by
  refine en_Z (ws' := BIG) (by decide +kernel) rfl (Nat.le_of_ble_eq_true rfl) ?_
  intro p e s m below meth c A ls R args H locs hR hx hb hr hlk hml hown hB hK hN hP hD hA hS hl
  have hl : lv_has ls 2 [(0, .ref (a 31))] := hl
  unfold f_C_hasLooseColumn at h
  refine lv_iconst (v := (0 : Int32)) hx hb d_C_hasLooseColumn_0 (by decide) ?_
  have L2 : ∀ (n : Nat) (σ : St) (x1 : Int32) (H : Heap) (locs : List Loc) (ls : Array Slot), va_P D vCl (wX g ca a σ ++ tl) H → va_D A (wX g ca a σ ++ tl) → va_S A s.heap H locs → lv_has ls 2 [(0, .ref (a 31)), (1, .int x1)] → f_C_hasLooseColumn_2 N n σ x1 = some (r, σ') → W p l e R s m args below meth c H locs 0 0 (MQ below (qb_QI D vCl (tyX ca) (wX g ca a σ' ++ tl) A r) args s 0 0 A) (F0 m 2 ls []) := by
    intro n
    induction n with
    | zero => intro σ x1 H locs ls hP hD hS hl h; cases h
    | succ n ih2 =>
        intro σ x1 H locs ls hP hD hS hl h
        obtain ⟨K2, eK2⟩ : ∃ K, K = f_C_hasLooseColumn_2 N n := ⟨_, rfl⟩
        rw [← eK2] at ih2
        replace h : f_C_hasLooseColumn_2_b N K2 σ x1 = some (r, σ') := by rw [eK2]; exact h
        unfold f_C_hasLooseColumn_2_b at h
        refine lv_iload_n hx hb d_C_hasLooseColumn_2 rfl (lv_at hl 1 rfl) ?_
        refine lv_aload_n hx hb d_C_hasLooseColumn_3 rfl (lv_at hl 0 rfl) ?_
        refine Xg_31_1 hx hb hB hown (hB _ m_321) hK hP d_C_hasLooseColumn_4 ?_
        refine Xg_6_0 hx hb hB hown (hB _ m_133) hK hP d_C_hasLooseColumn_7 ?_
        refine lv_icmp_ge (tgt := 46) hx hb d_C_hasLooseColumn_10 (by decide) (fun hc => ?_) (fun hc => ?_)
        · replace h := it_t h hc
          refine lv_iconst (v := (0 : Int32)) hx hb d_C_hasLooseColumn_46 (by decide) ?_
          have L48 : ∀ (n : Nat) (σ : St) (x1 : Int32) (H : Heap) (locs : List Loc) (ls : Array Slot), va_P D vCl (wX g ca a σ ++ tl) H → va_D A (wX g ca a σ ++ tl) → va_S A s.heap H locs → lv_has ls 2 [(0, .ref (a 31)), (1, .int x1)] → f_C_hasLooseColumn_48 N n σ x1 = some (r, σ') → W p l e R s m args below meth c H locs 0 0 (MQ below (qb_QI D vCl (tyX ca) (wX g ca a σ' ++ tl) A r) args s 0 0 A) (F0 m 48 ls []) := by
            intro n
            induction n with
            | zero => intro σ x1 H locs ls hP hD hS hl h; cases h
            | succ n ih48 =>
                intro σ x1 H locs ls hP hD hS hl h
                obtain ⟨K48, eK48⟩ : ∃ K, K = f_C_hasLooseColumn_48 N n := ⟨_, rfl⟩
                rw [← eK48] at ih48
                replace h : f_C_hasLooseColumn_48_b N K48 σ x1 = some (r, σ') := by rw [eK48]; exact h
                unfold f_C_hasLooseColumn_48_b at h
                refine lv_iload_n hx hb d_C_hasLooseColumn_48 rfl (lv_at hl 1 rfl) ?_
                refine lv_aload_n hx hb d_C_hasLooseColumn_49 rfl (lv_at hl 0 rfl) ?_
                refine Xg_31_2 hx hb hB hown (hB _ m_322) hK hP d_C_hasLooseColumn_50 ?_
                refine Xg_18_8 hx hb hB hown (hB _ m_224) hK hP d_C_hasLooseColumn_53 ?_
                refine lv_icmp_ge (tgt := 84) hx hb d_C_hasLooseColumn_56 (by decide) (fun hc => ?_) (fun hc => ?_)
                · replace h := it_t h hc
                  refine lv_aload_n hx hb d_C_hasLooseColumn_84 rfl (lv_at hl 0 rfl) ?_
                  refine Xg_31_1 hx hb hB hown (hB _ m_321) hK hP d_C_hasLooseColumn_85 ?_
                  refine lv_aload_n hx hb d_C_hasLooseColumn_88 rfl (lv_at hl 0 rfl) ?_
                  refine Xg_31_2 hx hb hB hown (hB _ m_322) hK hP d_C_hasLooseColumn_89 ?_
                  refine Xg_18_5 hx hb hB hown (hB _ m_214) hK hP d_C_hasLooseColumn_92 ?_
                  obtain ⟨r1, s2, hr1, h⟩ := bd_some h
                  refine go_VI (rest := []) ⟨hx, hb, hml, hown, hB⟩ nwX_ok (c_E_has l D ca g a tl N σ s2 (gi σ 5) r1 hr1) (cwx_V hB m_571 kw_E_has ⟨by rw [hR]; decide, by rw [hR]; decide⟩ rfl rfl) (va_recv hK hP (ci := 5) (q0 := 6) rfl rfl) hN hK hP hD hS hA rfl hl.1 rfl (Nat.le_of_ble_eq_true rfl) d_C_hasLooseColumn_95 ⟨by rw [hR]; exact Nat.le_of_ble_eq_true rfl, by rw [hR]; exact Nat.le_of_ble_eq_true rfl⟩ (fun H locs hP hD hS => ?_)
                  refine lv_if_eq (tgt := 120) hx hb d_C_hasLooseColumn_98 (by decide) (fun hc => ?_) (fun hc => ?_)
                  · replace h := it_t h hc
                    refine lv_iconst (v := (0 : Int32)) hx hb d_C_hasLooseColumn_120 (by decide) ?_
                    exact rf_Z (w := (fun z => wX g ca a z ++ tl)) h hx hb hr hlk hK hP hD hS rfl d_C_hasLooseColumn_121
                  · replace h := it_f h hc
                    refine lv_aload_n hx hb d_C_hasLooseColumn_101 rfl (lv_at hl 0 rfl) ?_
                    refine Xg_31_3 hx hb hB hown (hB _ m_323) hK hP d_C_hasLooseColumn_102 ?_
                    refine lv_aload_n hx hb d_C_hasLooseColumn_105 rfl (lv_at hl 0 rfl) ?_
                    refine Xg_31_2 hx hb hB hown (hB _ m_322) hK hP d_C_hasLooseColumn_106 ?_
                    refine Xg_18_5 hx hb hB hown (hB _ m_214) hK hP d_C_hasLooseColumn_109 ?_
                    obtain ⟨hi, h⟩ := ckb_some h
                    refine Xa_32 hx hb hK hP hi d_C_hasLooseColumn_112 ?_
                    refine lv_if_eq (tgt := 120) hx hb d_C_hasLooseColumn_113 (by decide) (fun hc => ?_) (fun hc => ?_)
                    · replace h := it_t h hc
                      refine lv_iconst (v := (0 : Int32)) hx hb d_C_hasLooseColumn_120 (by decide) ?_
                      exact rf_Z (w := (fun z => wX g ca a z ++ tl)) h hx hb hr hlk hK hP hD hS rfl d_C_hasLooseColumn_121
                    · replace h := it_f h hc
                      refine lv_iconst (v := (1 : Int32)) hx hb d_C_hasLooseColumn_116 (by decide) ?_
                      refine lv_goto (tgt := 121) hx hb d_C_hasLooseColumn_117 (by decide) ?_
                      exact rf_Z (w := (fun z => wX g ca a z ++ tl)) h hx hb hr hlk hK hP hD hS rfl d_C_hasLooseColumn_121
                · replace h := it_f h hc
                  refine lv_aload_n hx hb d_C_hasLooseColumn_59 rfl (lv_at hl 0 rfl) ?_
                  refine Xg_31_3 hx hb hB hown (hB _ m_323) hK hP d_C_hasLooseColumn_60 ?_
                  refine lv_aload_n hx hb d_C_hasLooseColumn_63 rfl (lv_at hl 0 rfl) ?_
                  refine Xg_31_2 hx hb hB hown (hB _ m_322) hK hP d_C_hasLooseColumn_64 ?_
                  refine Xg_18_9 hx hb hB hown (hB _ m_230) hK hP d_C_hasLooseColumn_67 ?_
                  refine lv_iload_n hx hb d_C_hasLooseColumn_70 rfl (lv_at hl 1 rfl) ?_
                  obtain ⟨hi, h⟩ := ckb_some h
                  refine Xa_23 hx hb hK hP hi d_C_hasLooseColumn_71 ?_
                  obtain ⟨hi, h⟩ := ckb_some h
                  refine Xa_32 hx hb hK hP hi d_C_hasLooseColumn_72 ?_
                  refine lv_if_eq (tgt := 78) hx hb d_C_hasLooseColumn_73 (by decide) (fun hc => ?_) (fun hc => ?_)
                  · replace h := it_t h hc
                    refine lv_iinc (v := (x1 + 1)) (lv' := [(1, .int (x1 + 1)), (0, .ref (a 31))]) hx hb d_C_hasLooseColumn_78 hl (k := 1) rfl rfl (by decide) rfl (fun ls hl => ?_)
                    refine lv_goto (tgt := 48) hx hb d_C_hasLooseColumn_81 (by decide) ?_
                    exact ih48 σ (x1 + 1) H locs ls hP hD hS (lv_sub hl [1, 0] rfl) h
                  · replace h := it_f h hc
                    refine lv_iconst (v := (1 : Int32)) hx hb d_C_hasLooseColumn_76 (by decide) ?_
                    exact rf_Z (w := (fun z => wX g ca a z ++ tl)) h hx hb hr hlk hK hP hD hS rfl d_C_hasLooseColumn_77
          refine lv_istore_n (lv' := [(1, .int (0 : Int32)), (0, .ref (a 31))]) hx hb d_C_hasLooseColumn_47 rfl hl (by decide) rfl (fun ls hl => ?_)
          exact L48 N σ (0 : Int32) H locs ls hP hD hS (lv_sub hl [1, 0] rfl) h
        · replace h := it_f h hc
          refine lv_aload_n hx hb d_C_hasLooseColumn_13 rfl (lv_at hl 0 rfl) ?_
          refine Xg_31_3 hx hb hB hown (hB _ m_323) hK hP d_C_hasLooseColumn_14 ?_
          refine lv_iload_n hx hb d_C_hasLooseColumn_17 rfl (lv_at hl 1 rfl) ?_
          refine lv_aload_n hx hb d_C_hasLooseColumn_18 rfl (lv_at hl 0 rfl) ?_
          refine lv_iload_n hx hb d_C_hasLooseColumn_19 rfl (lv_at hl 1 rfl) ?_
          obtain ⟨r3, s4, hr3, h⟩ := bd_some h
          refine go_VI (rest := [.int x1, .ref (a 32)]) ⟨hx, hb, hml, hown, hB⟩ nwX_ok (c_C_isLikeGroup l D ca g a tl N σ s4 x1 r3 hr3) (cwx_V hB m_596 kw_C_isLikeGroup ⟨by rw [hR]; decide, by rw [hR]; decide⟩ rfl rfl) (va_recv hK hP (ci := 3) (q0 := 31) rfl rfl) hN hK hP hD hS hA rfl hl.1 rfl (Nat.le_of_ble_eq_true rfl) d_C_hasLooseColumn_20 ⟨by rw [hR]; exact Nat.le_of_ble_eq_true rfl, by rw [hR]; exact Nat.le_of_ble_eq_true rfl⟩ (fun H locs hP hD hS => ?_)
          refine lv_if_ne (tgt := 38) hx hb d_C_hasLooseColumn_23 (by decide) (fun hc => ?_) (fun hc => ?_)
          · replace h := it_f h hc
            refine lv_iconst (v := (0 : Int32)) hx hb d_C_hasLooseColumn_38 (by decide) ?_
            obtain ⟨hi, h⟩ := ckb_some h
            obtain ⟨s5, es5, h⟩ := nm_some h
            refine Xs_32 es5 hx hb hK hP hD hS hi d_C_hasLooseColumn_39 (fun H locs hP hD hS => ?_)
            refine lv_iinc (v := (x1 + 1)) (lv' := [(1, .int (x1 + 1)), (0, .ref (a 31))]) hx hb d_C_hasLooseColumn_40 hl (k := 1) rfl rfl (by decide) rfl (fun ls hl => ?_)
            refine lv_goto (tgt := 2) hx hb d_C_hasLooseColumn_43 (by decide) ?_
            exact ih2 s5 (x1 + 1) H locs ls hP hD hS (lv_sub hl [1, 0] rfl) h
          · replace h := it_t h hc
            refine lv_aload_n hx hb d_C_hasLooseColumn_26 rfl (lv_at hl 0 rfl) ?_
            refine lv_iload_n hx hb d_C_hasLooseColumn_27 rfl (lv_at hl 1 rfl) ?_
            obtain ⟨r6, s7, hr6, h⟩ := bd_some h
            refine go_VI (rest := [.int x1, .ref (a 32)]) ⟨hx, hb, hml, hown, hB⟩ nwX_ok (c_C_isLoose l D ca g a tl N s4 s7 x1 r6 hr6) (cwx_V hB m_604 kw_C_isLoose ⟨by rw [hR]; decide, by rw [hR]; decide⟩ rfl rfl) (va_recv hK hP (ci := 3) (q0 := 31) rfl rfl) hN hK hP hD hS hA rfl hl.1 rfl (Nat.le_of_ble_eq_true rfl) d_C_hasLooseColumn_28 ⟨by rw [hR]; exact Nat.le_of_ble_eq_true rfl, by rw [hR]; exact Nat.le_of_ble_eq_true rfl⟩ (fun H locs hP hD hS => ?_)
            refine lv_if_eq (tgt := 38) hx hb d_C_hasLooseColumn_31 (by decide) (fun hc => ?_) (fun hc => ?_)
            · replace h := it_t h hc
              refine lv_iconst (v := (0 : Int32)) hx hb d_C_hasLooseColumn_38 (by decide) ?_
              obtain ⟨hi, h⟩ := ckb_some h
              obtain ⟨s8, es8, h⟩ := nm_some h
              refine Xs_32 es8 hx hb hK hP hD hS hi d_C_hasLooseColumn_39 (fun H locs hP hD hS => ?_)
              refine lv_iinc (v := (x1 + 1)) (lv' := [(1, .int (x1 + 1)), (0, .ref (a 31))]) hx hb d_C_hasLooseColumn_40 hl (k := 1) rfl rfl (by decide) rfl (fun ls hl => ?_)
              refine lv_goto (tgt := 2) hx hb d_C_hasLooseColumn_43 (by decide) ?_
              exact ih2 s8 (x1 + 1) H locs ls hP hD hS (lv_sub hl [1, 0] rfl) h
            · replace h := it_f h hc
              refine lv_iconst (v := (1 : Int32)) hx hb d_C_hasLooseColumn_34 (by decide) ?_
              refine lv_goto (tgt := 39) hx hb d_C_hasLooseColumn_35 (by decide) ?_
              obtain ⟨hi, h⟩ := ckb_some h
              obtain ⟨s9, es9, h⟩ := nm_some h
              refine Xs_32 es9 hx hb hK hP hD hS hi d_C_hasLooseColumn_39 (fun H locs hP hD hS => ?_)
              refine lv_iinc (v := (x1 + 1)) (lv' := [(1, .int (x1 + 1)), (0, .ref (a 31))]) hx hb d_C_hasLooseColumn_40 hl (k := 1) rfl rfl (by decide) rfl (fun ls hl => ?_)
              refine lv_goto (tgt := 2) hx hb d_C_hasLooseColumn_43 (by decide) ?_
              exact ih2 s9 (x1 + 1) H locs ls hP hD hS (lv_sub hl [1, 0] rfl) h
  refine lv_istore_n (lv' := [(1, .int (0 : Int32)), (0, .ref (a 31))]) hx hb d_C_hasLooseColumn_1 rfl hl (by decide) rfl (fun ls hl => ?_)
  exact L2 N σ (0 : Int32) H locs ls hP hD hS (lv_sub hl [1, 0] rfl) h
set_option maxRecDepth 100000 in
set_option maxHeartbeats 4000000 in
theorem c_C_firstFault (l : Launch) (D : va_G) (ca : Nat → ClassId) (g : Bool) (a : Nat → Nat) (tl : va_W) (N : Nat) (σ σ' : St) (r : Int32) (h : f_C_firstFault N σ = some (r, σ')) : CtI l y_C_firstFault ws_C_firstFault rm_C_firstFault 0 0 D vCl (tyX ca) nwX [.ref (a 31)] (wX g ca a σ ++ tl) (wX g ca a σ' ++ tl) r := by
  refine en_I (ws' := BIG) (by decide +kernel) rfl (Nat.le_of_ble_eq_true rfl) ?_
  intro p e s m below meth c A ls R args H locs hR hx hb hr hlk hml hown hB hK hN hP hD hA hS hl
  have hl : lv_has ls 1 [(0, .ref (a 31))] := hl
  unfold f_C_firstFault at h
  refine lv_aload_n hx hb d_C_firstFault_0 rfl (lv_at hl 0 rfl) ?_
  refine Xg_31_2 hx hb hB hown (hB _ m_322) hK hP d_C_firstFault_1 ?_
  refine Xg_18_0 hx hb hB hown (hB _ m_197) hK hP d_C_firstFault_4 ?_
  refine lv_if_eq (tgt := 20) hx hb d_C_firstFault_7 (by decide) (fun hc => ?_) (fun hc => ?_)
  · replace h := it_t h hc
    refine lv_iconst (v := (-1 : Int32)) hx hb d_C_firstFault_20 (by decide) ?_
    exact rf_I (w := (fun z => wX g ca a z ++ tl)) h hx hb hr hlk hK hP hD hS d_C_firstFault_21
  · replace h := it_f h hc
    refine lv_aload_n hx hb d_C_firstFault_10 rfl (lv_at hl 0 rfl) ?_
    refine Xg_31_2 hx hb hB hown (hB _ m_322) hK hP d_C_firstFault_11 ?_
    refine Xg_18_8 hx hb hB hown (hB _ m_224) hK hP d_C_firstFault_14 ?_
    refine lv_if_ne (tgt := 22) hx hb d_C_firstFault_17 (by decide) (fun hc => ?_) (fun hc => ?_)
    · replace h := it_f h hc
      refine lv_aload_n hx hb d_C_firstFault_22 rfl (lv_at hl 0 rfl) ?_
      obtain ⟨r1, s2, hr1, h⟩ := bd_some h
      refine go_VI (rest := []) ⟨hx, hb, hml, hown, hB⟩ nwX_ok (c_C_hasUnknownColumn l D ca g a tl N σ s2 r1 hr1) (cwx_V hB m_563 kw_C_hasUnknownColumn ⟨by rw [hR]; decide, by rw [hR]; decide⟩ rfl rfl) (va_recv hK hP (ci := 3) (q0 := 31) rfl rfl) hN hK hP hD hS hA rfl hl.1 rfl (Nat.le_of_ble_eq_true rfl) d_C_firstFault_23 ⟨by rw [hR]; exact Nat.le_of_ble_eq_true rfl, by rw [hR]; exact Nat.le_of_ble_eq_true rfl⟩ (fun H locs hP hD hS => ?_)
      refine lv_if_eq (tgt := 32) hx hb d_C_firstFault_26 (by decide) (fun hc => ?_) (fun hc => ?_)
      · replace h := it_t h hc
        refine lv_aload_n hx hb d_C_firstFault_32 rfl (lv_at hl 0 rfl) ?_
        obtain ⟨r3, s4, hr3, h⟩ := bd_some h
        refine go_VI (rest := []) ⟨hx, hb, hml, hown, hB⟩ nwX_ok (c_C_hasEarlyAggregate l D ca g a tl N s2 s4 r3 hr3) (cwx_V hB m_580 kw_C_hasEarlyAggregate ⟨by rw [hR]; decide, by rw [hR]; decide⟩ rfl rfl) (va_recv hK hP (ci := 3) (q0 := 31) rfl rfl) hN hK hP hD hS hA rfl hl.1 rfl (Nat.le_of_ble_eq_true rfl) d_C_firstFault_33 ⟨by rw [hR]; exact Nat.le_of_ble_eq_true rfl, by rw [hR]; exact Nat.le_of_ble_eq_true rfl⟩ (fun H locs hP hD hS => ?_)
        refine lv_if_eq (tgt := 42) hx hb d_C_firstFault_36 (by decide) (fun hc => ?_) (fun hc => ?_)
        · replace h := it_t h hc
          refine lv_aload_n hx hb d_C_firstFault_42 rfl (lv_at hl 0 rfl) ?_
          obtain ⟨r5, s6, hr5, h⟩ := bd_some h
          refine go_VI (rest := []) ⟨hx, hb, hml, hown, hB⟩ nwX_ok (c_C_isGrouped l D ca g a tl N s4 s6 r5 hr5) (cwx_V hB m_584 kw_C_isGrouped ⟨by rw [hR]; decide, by rw [hR]; decide⟩ rfl rfl) (va_recv hK hP (ci := 3) (q0 := 31) rfl rfl) hN hK hP hD hS hA rfl hl.1 rfl (Nat.le_of_ble_eq_true rfl) d_C_firstFault_43 ⟨by rw [hR]; exact Nat.le_of_ble_eq_true rfl, by rw [hR]; exact Nat.le_of_ble_eq_true rfl⟩ (fun H locs hP hD hS => ?_)
          refine lv_if_eq (tgt := 59) hx hb d_C_firstFault_46 (by decide) (fun hc => ?_) (fun hc => ?_)
          · replace h := it_t h hc
            refine lv_iconst (v := (0 : Int32)) hx hb d_C_firstFault_59 (by decide) ?_
            exact rf_I (w := (fun z => wX g ca a z ++ tl)) h hx hb hr hlk hK hP hD hS d_C_firstFault_60
          · replace h := it_f h hc
            refine lv_aload_n hx hb d_C_firstFault_49 rfl (lv_at hl 0 rfl) ?_
            obtain ⟨r7, s8, hr7, h⟩ := bd_some h
            refine go_VI (rest := []) ⟨hx, hb, hml, hown, hB⟩ nwX_ok (c_C_hasLooseColumn l D ca g a tl N s6 s8 r7 hr7) (cwx_V hB m_592 kw_C_hasLooseColumn ⟨by rw [hR]; decide, by rw [hR]; decide⟩ rfl rfl) (va_recv hK hP (ci := 3) (q0 := 31) rfl rfl) hN hK hP hD hS hA rfl hl.1 rfl (Nat.le_of_ble_eq_true rfl) d_C_firstFault_50 ⟨by rw [hR]; exact Nat.le_of_ble_eq_true rfl, by rw [hR]; exact Nat.le_of_ble_eq_true rfl⟩ (fun H locs hP hD hS => ?_)
            refine lv_if_eq (tgt := 59) hx hb d_C_firstFault_53 (by decide) (fun hc => ?_) (fun hc => ?_)
            · replace h := it_t h hc
              refine lv_iconst (v := (0 : Int32)) hx hb d_C_firstFault_59 (by decide) ?_
              exact rf_I (w := (fun z => wX g ca a z ++ tl)) h hx hb hr hlk hK hP hD hS d_C_firstFault_60
            · replace h := it_f h hc
              refine lv_bipush (v := (-13 : Int32)) hx hb d_C_firstFault_56 (by decide) ?_
              exact rf_I (w := (fun z => wX g ca a z ++ tl)) h hx hb hr hlk hK hP hD hS d_C_firstFault_58
        · replace h := it_f h hc
          refine lv_bipush (v := (-12 : Int32)) hx hb d_C_firstFault_39 (by decide) ?_
          exact rf_I (w := (fun z => wX g ca a z ++ tl)) h hx hb hr hlk hK hP hD hS d_C_firstFault_41
      · replace h := it_f h hc
        refine lv_bipush (v := (-11 : Int32)) hx hb d_C_firstFault_29 (by decide) ?_
        exact rf_I (w := (fun z => wX g ca a z ++ tl)) h hx hb hr hlk hK hP hD hS d_C_firstFault_31
    · replace h := it_t h hc
      refine lv_iconst (v := (-1 : Int32)) hx hb d_C_firstFault_20 (by decide) ?_
      exact rf_I (w := (fun z => wX g ca a z ++ tl)) h hx hb hr hlk hK hP hD hS d_C_firstFault_21
set_option maxRecDepth 100000 in
set_option maxHeartbeats 4000000 in
theorem c_G_openGroup (l : Launch) (D : va_G) (ca : Nat → ClassId) (a : Nat → Nat) (tl : va_W) (N : Nat) (σ σ' : St) (x1 : Int32) (h : f_G_openGroup N σ x1 = some ((), σ')) : CtV l y_G_openGroup ws_G_openGroup rm_G_openGroup 0 0 D vCl (tyX ca) nwX [.ref (a 35), .int x1] (wX true ca a σ ++ tl) (wX true ca a σ' ++ tl) := by
  refine en_V (ws' := BIG) (by decide +kernel) rfl (Nat.le_of_ble_eq_true rfl) ?_
  intro p e s m below meth c A ls R args H locs hR hx hb hr hlk hml hown hB hK hN hP hD hA hS hl
  have hl : lv_has ls 3 [(0, .ref (a 35)), (1, .int x1)] := hl
  unfold f_G_openGroup at h
  refine lv_aload_n hx hb d_G_openGroup_0 rfl (lv_at hl 0 rfl) ?_
  refine Xg_35_5 hx hb hB hown (hB _ m_622) hK hP d_G_openGroup_1 ?_
  refine lv_iload_n hx hb d_G_openGroup_4 rfl (lv_at hl 1 rfl) ?_
  refine lv_iconst (v := (-1 : Int32)) hx hb d_G_openGroup_5 (by decide) ?_
  obtain ⟨hi, h⟩ := ckb_some h
  obtain ⟨s1, es1, h⟩ := nm_some h
  refine Xs_38 es1 hx hb hK hP hD hS hi d_G_openGroup_6 (fun H locs hP hD hS => ?_)
  refine lv_iconst (v := (0 : Int32)) hx hb d_G_openGroup_7 (by decide) ?_
  have L9 : ∀ (n : Nat) (σ : St) (x1 : Int32) (x2 : Int32) (H : Heap) (locs : List Loc) (ls : Array Slot), va_P D vCl (wX true ca a σ ++ tl) H → va_D A (wX true ca a σ ++ tl) → va_S A s.heap H locs → lv_has ls 3 [(0, .ref (a 35)), (1, .int x1), (2, .int x2)] → f_G_openGroup_9 N n σ x1 x2 = some ((), σ') → W p l e R s m args below meth c H locs 0 0 (MQ below (qb_QV D vCl (tyX ca) (wX true ca a σ' ++ tl) A) args s 0 0 A) (F0 m 9 ls []) := by
    intro n
    induction n with
    | zero => intro σ x1 x2 H locs ls hP hD hS hl h; cases h
    | succ n ih9 =>
        intro σ x1 x2 H locs ls hP hD hS hl h
        obtain ⟨K9, eK9⟩ : ∃ K, K = f_G_openGroup_9 N n := ⟨_, rfl⟩
        rw [← eK9] at ih9
        replace h : f_G_openGroup_9_b N K9 σ x1 x2 = some ((), σ') := by rw [eK9]; exact h
        unfold f_G_openGroup_9_b at h
        refine lv_iload_n hx hb d_G_openGroup_9 rfl (lv_at hl 2 rfl) ?_
        refine lv_bipush (v := (8 : Int32)) hx hb d_G_openGroup_10 (by decide) ?_
        refine lv_icmp_ge (tgt := 45) hx hb d_G_openGroup_12 (by decide) (fun hc => ?_) (fun hc => ?_)
        · replace h := it_t h hc
          refine lv_aload_n hx hb d_G_openGroup_45 rfl (lv_at hl 0 rfl) ?_
          refine lv_iload_n hx hb d_G_openGroup_46 rfl (lv_at hl 1 rfl) ?_
          refine lv_iconst (v := (1 : Int32)) hx hb d_G_openGroup_47 (by decide) ?_
          refine lv_iadd hx hb d_G_openGroup_48 ?_
          obtain ⟨s2, es2, h⟩ := nm_some h
          refine Xp_35_1 es2 hx hb hB hown (hB _ m_617) hK hP hD hS d_G_openGroup_49 (fun H locs hP hD hS => ?_)
          exact rf_V (w := (fun z => wX true ca a z ++ tl)) h hx hb hr hlk hK hP hD hS d_G_openGroup_52
        · replace h := it_f h hc
          refine lv_aload_n hx hb d_G_openGroup_15 rfl (lv_at hl 0 rfl) ?_
          refine Xg_35_11 hx hb hB hown (hB _ m_628) hK hP d_G_openGroup_16 ?_
          refine lv_iload_n hx hb d_G_openGroup_19 rfl (lv_at hl 1 rfl) ?_
          refine lv_bipush (v := (8 : Int32)) hx hb d_G_openGroup_20 (by decide) ?_
          refine lv_imul hx hb d_G_openGroup_22 ?_
          refine lv_iload_n hx hb d_G_openGroup_23 rfl (lv_at hl 2 rfl) ?_
          refine lv_iadd hx hb d_G_openGroup_24 ?_
          refine lv_iconst (v := (0 : Int32)) hx hb d_G_openGroup_25 (by decide) ?_
          obtain ⟨hi, h⟩ := ckb_some h
          obtain ⟨s3, es3, h⟩ := nm_some h
          refine Xs_44 es3 hx hb hK hP hD hS hi d_G_openGroup_26 (fun H locs hP hD hS => ?_)
          refine lv_aload_n hx hb d_G_openGroup_27 rfl (lv_at hl 0 rfl) ?_
          refine Xg_35_12 hx hb hB hown (hB _ m_629) hK hP d_G_openGroup_28 ?_
          refine lv_iload_n hx hb d_G_openGroup_31 rfl (lv_at hl 1 rfl) ?_
          refine lv_bipush (v := (8 : Int32)) hx hb d_G_openGroup_32 (by decide) ?_
          refine lv_imul hx hb d_G_openGroup_34 ?_
          refine lv_iload_n hx hb d_G_openGroup_35 rfl (lv_at hl 2 rfl) ?_
          refine lv_iadd hx hb d_G_openGroup_36 ?_
          refine lv_lconst (v := (0 : Int64)) hx hb d_G_openGroup_37 (by decide) ?_
          obtain ⟨hi, h⟩ := ckb_some h
          obtain ⟨s4, es4, h⟩ := nm_some h
          refine Xs_45 es4 hx hb hK hP hD hS hi d_G_openGroup_38 (fun H locs hP hD hS => ?_)
          refine lv_iinc (v := (x2 + 1)) (lv' := [(2, .int (x2 + 1)), (0, .ref (a 35)), (1, .int x1)]) hx hb d_G_openGroup_39 hl (k := 2) rfl rfl (by decide) rfl (fun ls hl => ?_)
          refine lv_goto (tgt := 9) hx hb d_G_openGroup_42 (by decide) ?_
          exact ih9 s4 x1 (x2 + 1) H locs ls hP hD hS (lv_sub hl [1, 2, 0] rfl) h
  refine lv_istore_n (lv' := [(2, .int (0 : Int32)), (0, .ref (a 35)), (1, .int x1)]) hx hb d_G_openGroup_8 rfl hl (by decide) rfl (fun ls hl => ?_)
  exact L9 N s1 x1 (0 : Int32) H locs ls hP hD hS (lv_sub hl [1, 2, 0] rfl) h
set_option maxRecDepth 100000 in
set_option maxHeartbeats 4000000 in
theorem c_G_clear (l : Launch) (D : va_G) (ca : Nat → ClassId) (a : Nat → Nat) (tl : va_W) (N : Nat) (σ σ' : St) (x1 : Int32) (h : f_G_clear N σ x1 = some ((), σ')) : CtV l y_G_clear ws_G_clear rm_G_clear 0 0 D vCl (tyX ca) nwX [.ref (a 35), .int x1] (wX true ca a σ ++ tl) (wX true ca a σ' ++ tl) := by
  refine en_V (ws' := BIG) (by decide +kernel) rfl (Nat.le_of_ble_eq_true rfl) ?_
  intro p e s m below meth c A ls R args H locs hR hx hb hr hlk hml hown hB hK hN hP hD hA hS hl
  have hl : lv_has ls 2 [(0, .ref (a 35)), (1, .int x1)] := hl
  unfold f_G_clear at h
  refine lv_aload_n hx hb d_G_clear_0 rfl (lv_at hl 0 rfl) ?_
  refine lv_iconst (v := (0 : Int32)) hx hb d_G_clear_1 (by decide) ?_
  obtain ⟨s1, es1, h⟩ := nm_some h
  refine Xp_35_2 es1 hx hb hB hown (hB _ m_619) hK hP hD hS d_G_clear_2 (fun H locs hP hD hS => ?_)
  refine lv_aload_n hx hb d_G_clear_5 rfl (lv_at hl 0 rfl) ?_
  refine lv_iconst (v := (0 : Int32)) hx hb d_G_clear_6 (by decide) ?_
  obtain ⟨s2, es2, h⟩ := nm_some h
  refine Xp_35_1 es2 hx hb hB hown (hB _ m_617) hK hP hD hS d_G_clear_7 (fun H locs hP hD hS => ?_)
  refine lv_iload_n hx hb d_G_clear_10 rfl (lv_at hl 1 rfl) ?_
  refine lv_if_eq (tgt := 19) hx hb d_G_clear_11 (by decide) (fun hc => ?_) (fun hc => ?_)
  · replace h := it_t h hc
    exact rf_V (w := (fun z => wX true ca a z ++ tl)) h hx hb hr hlk hK hP hD hS d_G_clear_19
  · replace h := it_f h hc
    refine lv_aload_n hx hb d_G_clear_14 rfl (lv_at hl 0 rfl) ?_
    refine lv_iconst (v := (0 : Int32)) hx hb d_G_clear_15 (by decide) ?_
    obtain ⟨r3, s4, hr3, h⟩ := bd_some h
    cases r3
    refine go_VV (rest := []) ⟨hx, hb, hml, hown, hB⟩ nwX_ok (c_G_openGroup l D ca a tl N s2 s4 (0 : Int32) hr3) (cwx_V hB m_664 kw_G_openGroup ⟨by rw [hR]; decide, by rw [hR]; decide⟩ rfl rfl) (va_recv hK hP (ci := 6) (q0 := 35) rfl rfl) hN hK hP hD hS hA rfl hl.1 rfl (Nat.le_of_ble_eq_true rfl) d_G_clear_16 ⟨by rw [hR]; exact Nat.le_of_ble_eq_true rfl, by rw [hR]; exact Nat.le_of_ble_eq_true rfl⟩ (fun H locs hP hD hS => ?_)
    exact rf_V (w := (fun z => wX true ca a z ++ tl)) h hx hb hr hlk hK hP hD hS d_G_clear_19
set_option maxRecDepth 100000 in
set_option maxHeartbeats 4000000 in
theorem c_R_prepare (l : Launch) (D : va_G) (ca : Nat → ClassId) (g : Bool) (a : Nat → Nat) (tl : va_W) (N : Nat) (σ σ' : St) (g' : Bool) (r : Int32) (h : f_R_prepare N g σ = some (r, g', σ')) : CtG l y_R_prepare ws_R_prepare rm_R_prepare 11 17422 D vCl (tyX ca) nwX [.ref (a 30)] (wX g ca a σ ++ tl) (fun u => wX g' ca (xa a u) σ' ++ tl) r := by
  refine en_G (ws' := BIG) (by decide +kernel) rfl (Nat.le_of_ble_eq_true rfl) ?_
  intro p e s m below meth c A ls R args H locs hR hx hb hr hlk hml hown hB hK hN hP hD hA hS hl
  have hl : lv_has ls 2 [(0, .ref (a 30))] := hl
  unfold f_R_prepare at h
  refine lv_aload_n hx hb d_R_prepare_0 rfl (lv_at hl 0 rfl) ?_
  refine Xg_30_4 hx hb hB hown (hB _ m_368) hK hP d_R_prepare_1 ?_
  obtain ⟨r1, s2, hr1, h⟩ := bd_some h
  refine go_VI (rest := []) ⟨hx, hb, hml, hown, hB⟩ nwX_ok (c_C_firstFault l D ca g a tl N σ s2 r1 hr1) (cwx_V hB m_559 kw_C_firstFault ⟨by rw [hR]; decide, by rw [hR]; decide⟩ rfl rfl) (va_recv hK hP (ci := 3) (q0 := 31) rfl rfl) hN hK hP hD hS hA rfl hl.1 rfl (Nat.le_of_ble_eq_true rfl) d_R_prepare_4 ⟨by rw [hR]; exact Nat.le_of_ble_eq_true rfl, by rw [hR]; exact Nat.le_of_ble_eq_true rfl⟩ (fun H locs hP hD hS => ?_)
  refine lv_istore_n (lv' := [(1, .int r1), (0, .ref (a 30))]) hx hb d_R_prepare_7 rfl hl (by decide) rfl (fun ls hl => ?_)
  refine lv_iload_n hx hb d_R_prepare_8 rfl (lv_at hl 0 rfl) ?_
  refine lv_if_eq (tgt := 14) hx hb d_R_prepare_9 (by decide) (fun hc => ?_) (fun hc => ?_)
  · replace h := it_t h hc
    refine lv_aload_n hx hb d_R_prepare_14 rfl (lv_at hl 1 rfl) ?_
    refine lv_aload_n hx hb d_R_prepare_15 rfl (lv_at hl 1 rfl) ?_
    refine Xg_30_4 hx hb hB hown (hB _ m_368) hK hP d_R_prepare_16 ?_
    obtain ⟨r3, s4, hr3, h⟩ := bd_some h
    refine go_VI (rest := [.ref (a 30)]) ⟨hx, hb, hml, hown, hB⟩ nwX_ok (c_C_isGrouped l D ca g a tl N s2 s4 r3 hr3) (cwx_V hB m_608 kw_C_isGrouped ⟨by rw [hR]; decide, by rw [hR]; decide⟩ rfl rfl) (va_recv hK hP (ci := 3) (q0 := 31) rfl rfl) hN hK hP hD hS hA rfl hl.1 rfl (Nat.le_of_ble_eq_true rfl) d_R_prepare_19 ⟨by rw [hR]; exact Nat.le_of_ble_eq_true rfl, by rw [hR]; exact Nat.le_of_ble_eq_true rfl⟩ (fun H locs hP hD hS => ?_)
    obtain ⟨hi, h⟩ := ckt_some h
    obtain ⟨s5, es5, h⟩ := nm_some h
    refine Xp_30_6 es5 hx hb hB hown (hB _ m_370) hK hP hD hS hi d_R_prepare_22 (fun H locs hP hD hS => ?_)
    refine lv_aload_n hx hb d_R_prepare_25 rfl (lv_at hl 1 rfl) ?_
    refine lv_aload_n hx hb d_R_prepare_26 rfl (lv_at hl 1 rfl) ?_
    refine Xg_30_4 hx hb hB hown (hB _ m_368) hK hP d_R_prepare_27 ?_
    obtain ⟨r6, s7, hr6, h⟩ := bd_some h
    refine go_VI (rest := [.ref (a 30)]) ⟨hx, hb, hml, hown, hB⟩ nwX_ok (c_C_lateAggregates l D ca g a tl N s5 s7 r6 hr6) (cwx_V hB m_609 kw_C_lateAggregates ⟨by rw [hR]; decide, by rw [hR]; decide⟩ rfl rfl) (va_recv hK hP (ci := 3) (q0 := 31) rfl rfl) hN hK hP hD hS hA rfl hl.1 rfl (Nat.le_of_ble_eq_true rfl) d_R_prepare_30 ⟨by rw [hR]; exact Nat.le_of_ble_eq_true rfl, by rw [hR]; exact Nat.le_of_ble_eq_true rfl⟩ (fun H locs hP hD hS => ?_)
    obtain ⟨s8, es8, h⟩ := nm_some h
    refine Xp_30_7 es8 hx hb hB hown (hB _ m_371) hK hP hD hS d_R_prepare_33 (fun H locs hP hD hS => ?_)
    refine lv_aload_n hx hb d_R_prepare_36 rfl (lv_at hl 1 rfl) ?_
    refine Xg_30_6 hx hb hB hown (hB _ m_370) hK hP d_R_prepare_37 ?_
    refine lv_if_eq (tgt := 96) hx hb d_R_prepare_40 (by decide) (fun hc => ?_) (fun hc => ?_)
    · replace h := it_t h hc
      refine lv_iconst (v := (0 : Int32)) hx hb d_R_prepare_96 (by decide) ?_
      refine W.widen (k := 11) (n := 17422) (by omega) (by omega) ?_
      exact rf_G (w := fun g z x => wX g ca x z ++ tl) h (xa_self _).symm hx hb hr hlk hK hP hD hS d_R_prepare_97
    · replace h := it_f h hc
      refine lv_aload_n hx hb d_R_prepare_43 rfl (lv_at hl 1 rfl) ?_
      refine Xg_30_5 hx hb hB hown (hB _ m_369) hK hP d_R_prepare_44 ?_
      cases g with
      | true =>
        replace h := it_t h rfl
        refine Xg_33_4t hx hb hB hown (hB _ m_344) hK hP d_R_prepare_47 ?_
        refine lv_ifnonnull (tgt := 71) hx hb d_R_prepare_50 (by decide) ?_
        have L71 : ∀ (σ : St) (H : Heap) (locs : List Loc) (ls : Array Slot), va_P D vCl (wX true ca a σ ++ tl) H → va_D A (wX true ca a σ ++ tl) → va_S A s.heap H locs → lv_has ls 2 [(0, .ref (a 30))] → f_R_prepare_71 N true σ = some (r, g', σ') → W p l e R s m args below meth c H locs 0 0 (MQ below (qb_QG D vCl (tyX ca) (fun u => wX g' ca (xa a u) σ' ++ tl) A r) args s 11 17422 A) (F0 m 71 ls []) := by
          intro σ H locs ls hP hD hS hl h
          unfold f_R_prepare_71 at h
          refine lv_aload_n hx hb d_R_prepare_71 rfl (lv_at hl 0 rfl) ?_
          refine Xg_30_5 hx hb hB hown (hB _ m_369) hK hP d_R_prepare_72 ?_
          replace h := it_t h (by decide)
          refine Xg_33_4t hx hb hB hown (hB _ m_344) hK hP d_R_prepare_75 ?_
          refine lv_aload_n hx hb d_R_prepare_78 rfl (lv_at hl 0 rfl) ?_
          refine Xg_30_2 hx hb hB hown (hB _ m_366) hK hP d_R_prepare_79 ?_
          refine Xg_18_6 hx hb hB hown (hB _ m_218) hK hP d_R_prepare_82 ?_
          have L93 : ∀ (σ : St) (t0 : Int32) (H : Heap) (locs : List Loc) (ls : Array Slot), va_P D vCl (wX true ca a σ ++ tl) H → va_D A (wX true ca a σ ++ tl) → va_S A s.heap H locs → lv_has ls 2 [] → f_R_prepare_93 N true σ t0 = some (r, g', σ') → W p l e R s m args below meth c H locs 0 0 (MQ below (qb_QG D vCl (tyX ca) (fun u => wX g' ca (xa a u) σ' ++ tl) A r) args s 11 17422 A) (F0 m 93 ls [.int t0, .ref (a 35)]) := by
            intro σ t0 H locs ls hP hD hS hl h
            unfold f_R_prepare_93 at h
            obtain ⟨r9, s10, hr9, h⟩ := bd_some h
            cases r9
            refine go_VV (rest := []) ⟨hx, hb, hml, hown, hB⟩ nwX_ok (c_G_clear l D ca a tl N σ s10 t0 hr9) (cwx_V hB m_660 kw_G_clear ⟨by rw [hR]; decide, by rw [hR]; decide⟩ rfl rfl) (va_recv hK hP (ci := 6) (q0 := 35) rfl rfl) hN hK hP hD hS hA rfl hl.1 rfl (Nat.le_of_ble_eq_true rfl) d_R_prepare_93 ⟨by rw [hR]; exact Nat.le_of_ble_eq_true rfl, by rw [hR]; exact Nat.le_of_ble_eq_true rfl⟩ (fun H locs hP hD hS => ?_)
            refine lv_iconst (v := (0 : Int32)) hx hb d_R_prepare_96 (by decide) ?_
            refine W.widen (k := 11) (n := 17422) (by omega) (by omega) ?_
            exact rf_G (w := fun g z x => wX g ca x z ++ tl) h (xa_self _).symm hx hb hr hlk hK hP hD hS d_R_prepare_97
          refine lv_if_ne (tgt := 92) hx hb d_R_prepare_85 (by decide) (fun hc => ?_) (fun hc => ?_)
          · replace h := it_f h hc
            refine lv_iconst (v := (0 : Int32)) hx hb d_R_prepare_92 (by decide) ?_
            exact L93 σ (0 : Int32) H locs ls hP hD hS (lv_sub hl [] rfl) h
          · replace h := it_t h hc
            refine lv_iconst (v := (1 : Int32)) hx hb d_R_prepare_88 (by decide) ?_
            refine lv_goto (tgt := 93) hx hb d_R_prepare_89 (by decide) ?_
            exact L93 σ (1 : Int32) H locs ls hP hD hS (lv_sub hl [] rfl) h
        exact L71 s8 H locs ls hP hD hS (lv_sub hl [1] rfl) h
      | false =>
        replace h := it_f h (by decide)
        refine Xg_33_4f hx hb hB hown (hB _ m_344) hK hP d_R_prepare_47 ?_
        refine lv_ifnonnullN hx hb d_R_prepare_50 ?_
        refine lv_aload_n hx hb d_R_prepare_53 rfl (lv_at hl 1 rfl) ?_
        refine Xg_30_5 hx hb hB hown (hB _ m_369) hK hP d_R_prepare_54 ?_
        obtain ⟨s11, es11, h⟩ := nm_some h
        refine va_new (ci := 6) (fs := [.null, .int 0, .int 0, .null, .null, .null, .null, .null, .null, .null, .null, .null, .null, .int 0]) (C := RX6) (T := TX6) (N := 14) hx hb hB inX6 tyX6 tyX6_ok hown (hB _ m_610) (hB _ m_611) (hB _ m_84) hK hP hD hS hA rfl (fun j hj => by rcases (show j = 0 ∨ j = 1 ∨ j = 2 ∨ j = 3 ∨ j = 4 ∨ j = 5 ∨ j = 6 ∨ j = 7 ∨ j = 8 ∨ j = 9 ∨ j = 10 ∨ j = 11 ∨ j = 12 ∨ j = 13 by omega) with rfl | rfl | rfl | rfl | rfl | rfl | rfl | rfl | rfl | rfl | rfl | rfl | rfl | rfl <;> rfl) (by rw [hR]; exact Nat.le_of_ble_eq_true rfl) (by rw [hR]; exact Nat.le_of_ble_eq_true rfl) d_R_prepare_57 (fun qn H hP hD hS => ?_)
        replace hP := vP_front hP
        replace hD := vD_front hD
        refine lv_dup hx hb d_R_prepare_60 rfl ?_
        refine lv_aload_n hx hb d_R_prepare_61 rfl (lv_at hl 1 rfl) ?_
        refine va_get (D := D) (ci := 8) (v := .ref (a 6)) (C := RX8) (T := TX8) (N := 8) hx hb hB inX8 hown hK hP 31 rfl rfl 1 (by decide) (hB _ m_365) (fun _ h => h) rfl d_R_prepare_62 ?_
        refine go_IE (rest := [.ref qn, .ref (a 33)]) ⟨hx, hb, hml, hown, hB⟩ nwX_ok (c_G_init l D ca qn (a 6) (wX false ca a s8 ++ tl)) (cwx_I hB m_612 kw_G_init ⟨by rw [hR]; decide, by rw [hR]; decide⟩ rfl rfl) hN hK hP hD hS hA rfl hl.1 rfl (Nat.le_of_ble_eq_true rfl) d_R_prepare_65 ⟨by rw [hR]; exact Nat.le_of_ble_eq_true rfl, by rw [hR]; exact Nat.le_of_ble_eq_true rfl⟩ (fun u0 H locs hP hD hS => ?_)
        refine va_put (D := D) (ci := 4) (v := .ref qn) (ty := (.object "QueryRunner$Groups")) (C := RX4) (T := TX4) (N := 7) hx hb hB inX4 tyX4 tyX4_ok nX4 hown hK hP hD hS 44 rfl rfl 4 (by decide) (hB _ m_344) (fun _ h => h) rfl (by decide +kernel) rfl rfl (Nat.le_of_ble_eq_true rfl) d_R_prepare_68 (fun H locs hP hD hS => ?_)
        obtain ⟨u12, eu12⟩ : ∃ z : Nat → Nat, z = (fun k => if k = 35 then qn else u0 (k - 36)) := ⟨_, rfl⟩
        replace hP : va_P D vCl (wlX ca (xa a u12) s11 ++ (bwX true ca (xa a u12) s11 ++ tl)) H := by rw [es11, eu12]; exact hP
        replace hD : va_D A (wlX ca (xa a u12) s11 ++ (bwX true ca (xa a u12) s11 ++ tl)) := by rw [es11, eu12]; exact hD
        replace hP : va_P D vCl (wX true ca (xa a u12) s11 ++ tl) H := vP_perm (List.perm_append_comm_assoc _ _ _) hP
        replace hD : va_D A (wX true ca (xa a u12) s11 ++ tl) := vD_perm (List.perm_append_comm_assoc _ _ _) hD
        have L71 : ∀ (σ : St) (H : Heap) (locs : List Loc) (ls : Array Slot), va_P D vCl (wX true ca (xa a u12) σ ++ tl) H → va_D A (wX true ca (xa a u12) σ ++ tl) → va_S A s.heap H locs → lv_has ls 2 [(0, .ref (a 30))] → f_R_prepare_71 N true σ = some (r, g', σ') → W p l e R s m args below meth c H locs 11 17422 (MQ below (qb_QG D vCl (tyX ca) (fun u => wX g' ca (xa a u) σ' ++ tl) A r) args s 11 17422 A) (F0 m 71 ls []) := by
          intro σ H locs ls hP hD hS hl h
          unfold f_R_prepare_71 at h
          refine lv_aload_n hx hb d_R_prepare_71 rfl (lv_at hl 0 rfl) ?_
          refine Xg_30_5 (a := (xa a u12)) hx hb hB hown (hB _ m_369) hK hP d_R_prepare_72 ?_
          replace h := it_t h (by decide)
          refine Xg_33_4t (a := (xa a u12)) hx hb hB hown (hB _ m_344) hK hP d_R_prepare_75 ?_
          refine lv_aload_n hx hb d_R_prepare_78 rfl (lv_at hl 0 rfl) ?_
          refine Xg_30_2 (a := (xa a u12)) hx hb hB hown (hB _ m_366) hK hP d_R_prepare_79 ?_
          refine Xg_18_6 (a := (xa a u12)) hx hb hB hown (hB _ m_218) hK hP d_R_prepare_82 ?_
          have L93 : ∀ (σ : St) (t0 : Int32) (H : Heap) (locs : List Loc) (ls : Array Slot), va_P D vCl (wX true ca (xa a u12) σ ++ tl) H → va_D A (wX true ca (xa a u12) σ ++ tl) → va_S A s.heap H locs → lv_has ls 2 [] → f_R_prepare_93 N true σ t0 = some (r, g', σ') → W p l e R s m args below meth c H locs 11 17422 (MQ below (qb_QG D vCl (tyX ca) (fun u => wX g' ca (xa a u) σ' ++ tl) A r) args s 11 17422 A) (F0 m 93 ls [.int t0, .ref ((xa a u12) 35)]) := by
            intro σ t0 H locs ls hP hD hS hl h
            unfold f_R_prepare_93 at h
            obtain ⟨r13, s14, hr13, h⟩ := bd_some h
            cases r13
            refine go_VV (rest := []) ⟨hx, hb, hml, hown, hB⟩ nwX_ok (c_G_clear l D ca (xa a u12) tl N σ s14 t0 hr13) (cwx_V hB m_660 kw_G_clear ⟨by rw [hR]; decide, by rw [hR]; decide⟩ rfl rfl) (va_recv hK hP (ci := 6) (q0 := 35) rfl rfl) hN hK hP hD hS hA rfl hl.1 rfl (Nat.le_of_ble_eq_true rfl) d_R_prepare_93 ⟨by rw [hR]; exact Nat.le_of_ble_eq_true rfl, by rw [hR]; exact Nat.le_of_ble_eq_true rfl⟩ (fun H locs hP hD hS => ?_)
            refine lv_iconst (v := (0 : Int32)) hx hb d_R_prepare_96 (by decide) ?_
            exact rf_G (w := fun g z x => wX g ca x z ++ tl) h rfl hx hb hr hlk hK hP hD hS d_R_prepare_97
          refine lv_if_ne (tgt := 92) hx hb d_R_prepare_85 (by decide) (fun hc => ?_) (fun hc => ?_)
          · replace h := it_f h hc
            refine lv_iconst (v := (0 : Int32)) hx hb d_R_prepare_92 (by decide) ?_
            exact L93 σ (0 : Int32) H locs ls hP hD hS (lv_sub hl [] rfl) h
          · replace h := it_t h hc
            refine lv_iconst (v := (1 : Int32)) hx hb d_R_prepare_88 (by decide) ?_
            refine lv_goto (tgt := 93) hx hb d_R_prepare_89 (by decide) ?_
            exact L93 σ (1 : Int32) H locs ls hP hD hS (lv_sub hl [] rfl) h
        exact L71 s11 H locs ls hP hD hS (lv_sub hl [1] rfl) h
  · replace h := it_f h hc
    refine lv_iload_n hx hb d_R_prepare_12 rfl (lv_at hl 0 rfl) ?_
    refine W.widen (k := 11) (n := 17422) (by omega) (by omega) ?_
    exact rf_G (w := fun g z x => wX g ca x z ++ tl) h (xa_self _).symm hx hb hr hlk hK hP hD hS d_R_prepare_13
theorem fl_93 {N : Nat} {g : Bool} {σ : St} {t r : Int32} {g' : Bool} {σ' : St} (h : f_R_prepare_93 N g σ t = some (r, g', σ')) : g' = g := by
  unfold f_R_prepare_93 at h
  obtain ⟨r1, s1, h1, h⟩ := bd_some h
  cases h
  rfl
theorem fl_71 {N : Nat} {g : Bool} {σ : St} {r : Int32} {g' : Bool} {σ' : St} (h : f_R_prepare_71 N g σ = some (r, g', σ')) : g' = g := by
  unfold f_R_prepare_71 at h
  split at h
  · split at h <;> exact fl_93 h
  · cases h
theorem fl_prep {N : Nat} {g : Bool} {σ : St} {r : Int32} {g' : Bool} {σ' : St} (h : f_R_prepare N g σ = some (r, g', σ')) : g = true → g' = true := by
  intro hg
  subst hg
  unfold f_R_prepare at h
  obtain ⟨r1, s1, h1, h⟩ := bd_some h
  by_cases c1 : r1 = 0
  · replace h := it_t h c1
    obtain ⟨r2, s2, h2, h⟩ := bd_some h
    obtain ⟨hi, h⟩ := ckt_some h
    obtain ⟨s3, e3, h⟩ := nm_some h
    obtain ⟨r4, s4, h4, h⟩ := bd_some h
    obtain ⟨s5, e5, h⟩ := nm_some h
    by_cases c2 : gi s5 16 = 0
    · replace h := it_t h c2
      cases h
      rfl
    · replace h := it_f h c2
      replace h := it_t h rfl
      exact fl_71 h
  · replace h := it_f h c1
    cases h
    rfl
theorem fl_40 {N : Nat} {g : Bool} {σ : St} {x r : Int32} {g' : Bool} {σ' : St} (h : f_Q_run_40 N g σ x = some (r, g', σ')) : g' = g := by
  unfold f_Q_run_40 at h
  split at h
  · obtain ⟨r1, s1, h1, h⟩ := bd_some h
    cases h
    rfl
  · cases h; rfl
theorem fl_28 {N : Nat} {g : Bool} {σ : St} {x r : Int32} {g' : Bool} {σ' : St} (h : f_Q_run_28 N g σ x = some (r, g', σ')) : g' = g := by
  unfold f_Q_run_28 at h
  split at h
  · obtain ⟨r1, s1, h1, h⟩ := bd_some h
    exact fl_40 h
  · exact fl_40 h
theorem fl_tail {N : Nat} {g : Bool} {σ : St} {x r : Int32} {g' : Bool} {σ' : St} (h : (if x = 0 then (bd (f_jf N g 6 σ (0 : Int32)) fun r11 s12 => f_Q_run_28 N g s12 r11) else f_Q_run_28 N g σ x) = some (r, g', σ')) : g' = g := by
  split at h
  · obtain ⟨r1, s1, h1, h⟩ := bd_some h
    exact fl_28 h
  · exact fl_28 h
theorem fl_run {N : Nat} {g : Bool} {σ : St} {r : Int32} {g' : Bool} {σ' : St} (h : f_Q_run N g σ = some (r, g', σ')) : g = true → g' = true := by
  intro hg
  unfold f_Q_run at h
  obtain ⟨r1, s1, h1, h⟩ := bd_some h
  obtain ⟨r2, g2, s2, h2, h⟩ := bg_some h
  exact (fl_tail h).trans (fl_prep h2 hg)
set_option maxRecDepth 100000 in
set_option maxHeartbeats 4000000 in
theorem c_R_prepare_s (l : Launch) (D : va_G) (ca : Nat → ClassId) (g : Bool) (a : Nat → Nat) (tl : va_W) (N : Nat) (σ σ' : St) (g' : Bool) (r : Int32) (hg : g' = g) (h : f_R_prepare N g σ = some (r, g', σ')) : CtG l y_R_prepare ws_R_prepare rm_R_prepare_s 0 0 D vCl (tyX ca) nwX [.ref (a 30)] (wX g ca a σ ++ tl) (fun u => wX g' ca (xa a u) σ' ++ tl) r := by
  refine en_G (ws' := BIG) (by decide +kernel) rfl (Nat.le_of_ble_eq_true rfl) ?_
  intro p e s m below meth c A ls R args H locs hR hx hb hr hlk hml hown hB hK hN hP hD hA hS hl
  have hl : lv_has ls 2 [(0, .ref (a 30))] := hl
  unfold f_R_prepare at h
  refine lv_aload_n hx hb d_R_prepare_0 rfl (lv_at hl 0 rfl) ?_
  refine Xg_30_4 hx hb hB hown (hB _ m_368) hK hP d_R_prepare_1 ?_
  obtain ⟨r1, s2, hr1, h⟩ := bd_some h
  refine go_VI (rest := []) ⟨hx, hb, hml, hown, hB⟩ nwX_ok (c_C_firstFault l D ca g a tl N σ s2 r1 hr1) (cwx_V hB m_559 kw_C_firstFault ⟨by rw [hR]; decide, by rw [hR]; decide⟩ rfl rfl) (va_recv hK hP (ci := 3) (q0 := 31) rfl rfl) hN hK hP hD hS hA rfl hl.1 rfl (Nat.le_of_ble_eq_true rfl) d_R_prepare_4 ⟨by rw [hR]; exact Nat.le_of_ble_eq_true rfl, by rw [hR]; exact Nat.le_of_ble_eq_true rfl⟩ (fun H locs hP hD hS => ?_)
  refine lv_istore_n (lv' := [(1, .int r1), (0, .ref (a 30))]) hx hb d_R_prepare_7 rfl hl (by decide) rfl (fun ls hl => ?_)
  refine lv_iload_n hx hb d_R_prepare_8 rfl (lv_at hl 0 rfl) ?_
  refine lv_if_eq (tgt := 14) hx hb d_R_prepare_9 (by decide) (fun hc => ?_) (fun hc => ?_)
  · replace h := it_t h hc
    refine lv_aload_n hx hb d_R_prepare_14 rfl (lv_at hl 1 rfl) ?_
    refine lv_aload_n hx hb d_R_prepare_15 rfl (lv_at hl 1 rfl) ?_
    refine Xg_30_4 hx hb hB hown (hB _ m_368) hK hP d_R_prepare_16 ?_
    obtain ⟨r3, s4, hr3, h⟩ := bd_some h
    refine go_VI (rest := [.ref (a 30)]) ⟨hx, hb, hml, hown, hB⟩ nwX_ok (c_C_isGrouped l D ca g a tl N s2 s4 r3 hr3) (cwx_V hB m_608 kw_C_isGrouped ⟨by rw [hR]; decide, by rw [hR]; decide⟩ rfl rfl) (va_recv hK hP (ci := 3) (q0 := 31) rfl rfl) hN hK hP hD hS hA rfl hl.1 rfl (Nat.le_of_ble_eq_true rfl) d_R_prepare_19 ⟨by rw [hR]; exact Nat.le_of_ble_eq_true rfl, by rw [hR]; exact Nat.le_of_ble_eq_true rfl⟩ (fun H locs hP hD hS => ?_)
    obtain ⟨hi, h⟩ := ckt_some h
    obtain ⟨s5, es5, h⟩ := nm_some h
    refine Xp_30_6 es5 hx hb hB hown (hB _ m_370) hK hP hD hS hi d_R_prepare_22 (fun H locs hP hD hS => ?_)
    refine lv_aload_n hx hb d_R_prepare_25 rfl (lv_at hl 1 rfl) ?_
    refine lv_aload_n hx hb d_R_prepare_26 rfl (lv_at hl 1 rfl) ?_
    refine Xg_30_4 hx hb hB hown (hB _ m_368) hK hP d_R_prepare_27 ?_
    obtain ⟨r6, s7, hr6, h⟩ := bd_some h
    refine go_VI (rest := [.ref (a 30)]) ⟨hx, hb, hml, hown, hB⟩ nwX_ok (c_C_lateAggregates l D ca g a tl N s5 s7 r6 hr6) (cwx_V hB m_609 kw_C_lateAggregates ⟨by rw [hR]; decide, by rw [hR]; decide⟩ rfl rfl) (va_recv hK hP (ci := 3) (q0 := 31) rfl rfl) hN hK hP hD hS hA rfl hl.1 rfl (Nat.le_of_ble_eq_true rfl) d_R_prepare_30 ⟨by rw [hR]; exact Nat.le_of_ble_eq_true rfl, by rw [hR]; exact Nat.le_of_ble_eq_true rfl⟩ (fun H locs hP hD hS => ?_)
    obtain ⟨s8, es8, h⟩ := nm_some h
    refine Xp_30_7 es8 hx hb hB hown (hB _ m_371) hK hP hD hS d_R_prepare_33 (fun H locs hP hD hS => ?_)
    refine lv_aload_n hx hb d_R_prepare_36 rfl (lv_at hl 1 rfl) ?_
    refine Xg_30_6 hx hb hB hown (hB _ m_370) hK hP d_R_prepare_37 ?_
    refine lv_if_eq (tgt := 96) hx hb d_R_prepare_40 (by decide) (fun hc => ?_) (fun hc => ?_)
    · replace h := it_t h hc
      refine lv_iconst (v := (0 : Int32)) hx hb d_R_prepare_96 (by decide) ?_
      refine W.widen (k := 0) (n := 0) (by omega) (by omega) ?_
      exact rf_G (w := fun g z x => wX g ca x z ++ tl) h (xa_self _).symm hx hb hr hlk hK hP hD hS d_R_prepare_97
    · replace h := it_f h hc
      refine lv_aload_n hx hb d_R_prepare_43 rfl (lv_at hl 1 rfl) ?_
      refine Xg_30_5 hx hb hB hown (hB _ m_369) hK hP d_R_prepare_44 ?_
      cases g with
      | true =>
        replace h := it_t h rfl
        refine Xg_33_4t hx hb hB hown (hB _ m_344) hK hP d_R_prepare_47 ?_
        refine lv_ifnonnull (tgt := 71) hx hb d_R_prepare_50 (by decide) ?_
        have L71 : ∀ (σ : St) (H : Heap) (locs : List Loc) (ls : Array Slot), va_P D vCl (wX true ca a σ ++ tl) H → va_D A (wX true ca a σ ++ tl) → va_S A s.heap H locs → lv_has ls 2 [(0, .ref (a 30))] → f_R_prepare_71 N true σ = some (r, g', σ') → W p l e R s m args below meth c H locs 0 0 (MQ below (qb_QG D vCl (tyX ca) (fun u => wX g' ca (xa a u) σ' ++ tl) A r) args s 0 0 A) (F0 m 71 ls []) := by
          intro σ H locs ls hP hD hS hl h
          unfold f_R_prepare_71 at h
          refine lv_aload_n hx hb d_R_prepare_71 rfl (lv_at hl 0 rfl) ?_
          refine Xg_30_5 hx hb hB hown (hB _ m_369) hK hP d_R_prepare_72 ?_
          replace h := it_t h (by decide)
          refine Xg_33_4t hx hb hB hown (hB _ m_344) hK hP d_R_prepare_75 ?_
          refine lv_aload_n hx hb d_R_prepare_78 rfl (lv_at hl 0 rfl) ?_
          refine Xg_30_2 hx hb hB hown (hB _ m_366) hK hP d_R_prepare_79 ?_
          refine Xg_18_6 hx hb hB hown (hB _ m_218) hK hP d_R_prepare_82 ?_
          have L93 : ∀ (σ : St) (t0 : Int32) (H : Heap) (locs : List Loc) (ls : Array Slot), va_P D vCl (wX true ca a σ ++ tl) H → va_D A (wX true ca a σ ++ tl) → va_S A s.heap H locs → lv_has ls 2 [] → f_R_prepare_93 N true σ t0 = some (r, g', σ') → W p l e R s m args below meth c H locs 0 0 (MQ below (qb_QG D vCl (tyX ca) (fun u => wX g' ca (xa a u) σ' ++ tl) A r) args s 0 0 A) (F0 m 93 ls [.int t0, .ref (a 35)]) := by
            intro σ t0 H locs ls hP hD hS hl h
            unfold f_R_prepare_93 at h
            obtain ⟨r9, s10, hr9, h⟩ := bd_some h
            cases r9
            refine go_VV (rest := []) ⟨hx, hb, hml, hown, hB⟩ nwX_ok (c_G_clear l D ca a tl N σ s10 t0 hr9) (cwx_V hB m_660 kw_G_clear ⟨by rw [hR]; decide, by rw [hR]; decide⟩ rfl rfl) (va_recv hK hP (ci := 6) (q0 := 35) rfl rfl) hN hK hP hD hS hA rfl hl.1 rfl (Nat.le_of_ble_eq_true rfl) d_R_prepare_93 ⟨by rw [hR]; exact Nat.le_of_ble_eq_true rfl, by rw [hR]; exact Nat.le_of_ble_eq_true rfl⟩ (fun H locs hP hD hS => ?_)
            refine lv_iconst (v := (0 : Int32)) hx hb d_R_prepare_96 (by decide) ?_
            refine W.widen (k := 0) (n := 0) (by omega) (by omega) ?_
            exact rf_G (w := fun g z x => wX g ca x z ++ tl) h (xa_self _).symm hx hb hr hlk hK hP hD hS d_R_prepare_97
          refine lv_if_ne (tgt := 92) hx hb d_R_prepare_85 (by decide) (fun hc => ?_) (fun hc => ?_)
          · replace h := it_f h hc
            refine lv_iconst (v := (0 : Int32)) hx hb d_R_prepare_92 (by decide) ?_
            exact L93 σ (0 : Int32) H locs ls hP hD hS (lv_sub hl [] rfl) h
          · replace h := it_t h hc
            refine lv_iconst (v := (1 : Int32)) hx hb d_R_prepare_88 (by decide) ?_
            refine lv_goto (tgt := 93) hx hb d_R_prepare_89 (by decide) ?_
            exact L93 σ (1 : Int32) H locs ls hP hD hS (lv_sub hl [] rfl) h
        exact L71 s8 H locs ls hP hD hS (lv_sub hl [1] rfl) h
      | false =>
        replace h := it_f h (by decide)
        obtain ⟨sx, ex, h⟩ := nm_some h
        exact absurd ((fl_71 h).symm.trans hg) (by decide)
  · replace h := it_f h hc
    refine lv_iload_n hx hb d_R_prepare_12 rfl (lv_at hl 0 rfl) ?_
    refine W.widen (k := 0) (n := 0) (by omega) (by omega) ?_
    exact rf_G (w := fun g z x => wX g ca x z ++ tl) h (xa_self _).symm hx hb hr hlk hK hP hD hS d_R_prepare_13
