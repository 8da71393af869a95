set_option maxRecDepth 100000 in
set_option maxHeartbeats 4000000 in
theorem c_Q_run (l : Launch) (D : va_G) (ca : Nat → ClassId) (g : Bool) (a : Nat → Nat) (tl : va_W) (N : Nat) (σ σ' : St) (g' : Bool) (r : Int32) (h : f_Q_run N g σ = some (r, g', σ')) : CtG l y_Q_run ws_Q_run rm_Q_run 11 17422 D vCl (tyX ca) nwX [.ref (a 0)] (wX g ca a σ ++ tl) (fun u => wX g' ca (xa a u) σ' ++ tl) r := by
  refine en_G (ws' := BIG) (by decide +kernel) rfl (Nat.le_of_ble_eq_true rfl) ?_
  intro p e s m below meth c A ls R args H locs hR hx hb hr hlk hml hown hB hK hN hP hD hA hS hl
  have hl : lv_has ls 2 [(0, .ref (a 0))] := hl
  unfold f_Q_run at h
  refine lv_aload_n hx hb d_Q_run_0 rfl (lv_at hl 0 rfl) ?_
  refine Xg_0_3 hx hb hB hown (hB _ m_392) hK hP d_Q_run_1 ?_
  obtain ⟨r1, s2, hr1, h⟩ := bd_some h
  cases r1
  refine go_VV (rest := []) ⟨hx, hb, hml, hown, hB⟩ nwX_ok (c_A_clear l D ca g a tl N σ s2 hr1) (cwx_V hB m_551 kw_A_clear ⟨by rw [hR]; decide, by rw [hR]; decide⟩ rfl rfl) (va_recv hK hP (ci := 2) (q0 := 26) rfl rfl) hN hK hP hD hS hA rfl hl.1 rfl (Nat.le_of_ble_eq_true rfl) d_Q_run_4 ⟨by rw [hR]; exact Nat.le_of_ble_eq_true rfl, by rw [hR]; exact Nat.le_of_ble_eq_true rfl⟩ (fun H locs hP hD hS => ?_)
  refine lv_aload_n hx hb d_Q_run_7 rfl (lv_at hl 0 rfl) ?_
  refine Xg_0_4 hx hb hB hown (hB _ m_393) hK hP d_Q_run_8 ?_
  obtain ⟨r3, g5, s4, hr3, h⟩ := bg_some h
  refine go_VG (rest := []) ⟨hx, hb, hml, hown, hB⟩ nwX_ok (c_R_prepare l D ca g a tl N s2 s4 g5 r3 hr3) (cwx_V hB m_555 kw_R_prepare ⟨by rw [hR]; decide, by rw [hR]; decide⟩ rfl rfl) (va_recv hK hP (ci := 8) (q0 := 30) rfl rfl) hN hK hP hD hS hA rfl hl.1 rfl (Nat.le_of_ble_eq_true rfl) d_Q_run_11 ⟨by rw [hR]; exact Nat.le_of_ble_eq_true rfl, by rw [hR]; exact Nat.le_of_ble_eq_true rfl⟩ (fun u6 H locs hP hD hS => ?_)
  refine lv_istore_n (lv' := [(1, .int r3), (0, .ref (a 0))]) hx hb d_Q_run_14 rfl hl (by decide) rfl (fun ls hl => ?_)
  refine lv_iload_n hx hb d_Q_run_15 rfl (lv_at hl 0 rfl) ?_
  have L28 : ∀ (σ : St) (x1 : Int32) (H : Heap) (locs : List Loc) (ls : Array Slot), va_P D vCl (wX g5 ca (xa a u6) σ ++ tl) H → va_D A (wX g5 ca (xa a u6) σ ++ tl) → va_S A s.heap H locs → lv_has ls 2 [(0, .ref (a 0)), (1, .int x1)] → f_Q_run_28 N g5 σ x1 = some (r, g', σ') → W p l e R s m args below meth c H locs 11 17422 (MQ below (qb_QG D vCl (tyX ca) (fun u => wX g' ca (xa a u) σ' ++ tl) A r) args s 11 17422 A) (F0 m 28 ls []) := by
    intro σ x1 H locs ls hP hD hS hl h
    unfold f_Q_run_28 at h
    refine lv_iload_n hx hb d_Q_run_28 rfl (lv_at hl 1 rfl) ?_
    have L40 : ∀ (σ : St) (x1 : Int32) (H : Heap) (locs : List Loc) (ls : Array Slot), va_P D vCl (wX g5 ca (xa a u6) σ ++ tl) H → va_D A (wX g5 ca (xa a u6) σ ++ tl) → va_S A s.heap H locs → lv_has ls 2 [(0, .ref (a 0)), (1, .int x1)] → f_Q_run_40 N g5 σ x1 = some (r, g', σ') → W p l e R s m args below meth c H locs 11 17422 (MQ below (qb_QG D vCl (tyX ca) (fun u => wX g' ca (xa a u) σ' ++ tl) A r) args s 11 17422 A) (F0 m 40 ls []) := by
      intro σ x1 H locs ls hP hD hS hl h
      unfold f_Q_run_40 at h
      refine lv_iload_n hx hb d_Q_run_40 rfl (lv_at hl 1 rfl) ?_
      refine lv_if_eq (tgt := 46) hx hb d_Q_run_41 (by decide) (fun hc => ?_) (fun hc => ?_)
      · replace h := it_t h hc
        refine lv_aload_n hx hb d_Q_run_46 rfl (lv_at hl 0 rfl) ?_
        refine Xg_0_3 (a := (xa a u6)) hx hb hB hown (hB _ m_392) hK hP d_Q_run_47 ?_
        refine lv_aload_n hx hb d_Q_run_50 rfl (lv_at hl 0 rfl) ?_
        refine Xg_0_2 (a := (xa a u6)) hx hb hB hown (hB _ m_391) hK hP d_Q_run_51 ?_
        obtain ⟨r7, s8, hr7, h⟩ := bd_some h
        cases r7
        refine go_VV (rest := []) ⟨hx, hb, hml, hown, hB⟩ nwX_ok (c_A_finish l D ca g5 (xa a u6) tl N σ s8 hr7) (cwx_V hB m_803 kw_A_finish ⟨by rw [hR]; decide, by rw [hR]; decide⟩ rfl rfl) (va_recv hK hP (ci := 2) (q0 := 26) rfl rfl) hN hK hP hD hS hA rfl hl.1 rfl (Nat.le_of_ble_eq_true rfl) d_Q_run_54 ⟨by rw [hR]; exact Nat.le_of_ble_eq_true rfl, by rw [hR]; exact Nat.le_of_ble_eq_true rfl⟩ (fun H locs hP hD hS => ?_)
        refine lv_aload_n hx hb d_Q_run_57 rfl (lv_at hl 0 rfl) ?_
        refine Xg_0_3 (a := (xa a u6)) hx hb hB hown (hB _ m_392) hK hP d_Q_run_58 ?_
        refine Xg_26_1 (a := (xa a u6)) hx hb hB hown (hB _ m_287) hK hP d_Q_run_61 ?_
        exact rf_G (w := fun g z x => wX g ca x z ++ tl) h rfl hx hb hr hlk hK hP hD hS d_Q_run_64
      · replace h := it_f h hc
        refine lv_iload_n hx hb d_Q_run_44 rfl (lv_at hl 1 rfl) ?_
        exact rf_G (w := fun g z x => wX g ca x z ++ tl) h rfl hx hb hr hlk hK hP hD hS d_Q_run_45
    refine lv_if_ne (tgt := 40) hx hb d_Q_run_29 (by decide) (fun hc => ?_) (fun hc => ?_)
    · replace h := it_f h hc
      exact L40 σ x1 H locs ls hP hD hS (lv_sub hl [0, 1] rfl) h
    · replace h := it_t h hc
      refine lv_aload_n hx hb d_Q_run_32 rfl (lv_at hl 0 rfl) ?_
      refine Xg_0_4 (a := (xa a u6)) hx hb hB hown (hB _ m_393) hK hP d_Q_run_33 ?_
      obtain ⟨r9, s10, hr9, h⟩ := bd_some h
      refine go_VI (rest := []) ⟨hx, hb, hml, hown, hB⟩ nwX_ok (c_R_giveGroups l D ca g5 (xa a u6) tl N σ s10 r9 hr9) (cwx_V hB m_795 kw_R_giveGroups ⟨by rw [hR]; decide, by rw [hR]; decide⟩ rfl rfl) (va_recv hK hP (ci := 8) (q0 := 30) rfl rfl) hN hK hP hD hS hA rfl hl.1 rfl (Nat.le_of_ble_eq_true rfl) d_Q_run_36 ⟨by rw [hR]; exact Nat.le_of_ble_eq_true rfl, by rw [hR]; exact Nat.le_of_ble_eq_true rfl⟩ (fun H locs hP hD hS => ?_)
      refine lv_istore_n (lv' := [(1, .int r9), (0, .ref (a 0))]) hx hb d_Q_run_39 rfl hl (by decide) rfl (fun ls hl => ?_)
      exact L40 s10 r9 H locs ls hP hD hS (lv_sub hl [1, 0] rfl) h
  refine lv_if_ne (tgt := 28) hx hb d_Q_run_16 (by decide) (fun hc => ?_) (fun hc => ?_)
  · replace h := it_f h hc
    exact L28 s4 r3 H locs ls hP hD hS (lv_sub hl [1, 0] rfl) h
  · replace h := it_t h hc
    refine lv_aload_n hx hb d_Q_run_19 rfl (lv_at hl 1 rfl) ?_
    refine Xg_0_4 (a := (xa a u6)) hx hb hB hown (hB _ m_393) hK hP d_Q_run_20 ?_
    refine lv_iconst (v := (0 : Int32)) hx hb d_Q_run_23 (by decide) ?_
    obtain ⟨r11, s12, hr11, h⟩ := bd_some h
    refine go_NI (rest := []) ⟨hx, hb, hml, hown, hB⟩ nwX_ok (c_R_joinFrom l D ca g5 (xa a u6) tl N 6 s4 s12 (0 : Int32) r11 hr11) (cwx_N hB hN (List.mem_of_getElem? (i := 2) rfl) kw_R_joinFrom ⟨by rw [hR]; decide, by rw [hR]; decide⟩ rfl rfl) (va_recv hK hP (ci := 8) (q0 := 30) rfl rfl) hN hK hP hD hS hA rfl hl.1 rfl (Nat.le_of_ble_eq_true rfl) d_Q_run_24 ⟨by rw [hR]; exact Nat.le_of_ble_eq_true rfl, by rw [hR]; exact Nat.le_of_ble_eq_true rfl⟩ (fun H locs hP hD hS => ?_)
    refine lv_istore_n (lv' := [(1, .int r11), (0, .ref (a 0))]) hx hb d_Q_run_27 rfl hl (by decide) rfl (fun ls hl => ?_)
    exact L28 s12 r11 H locs ls hP hD hS (lv_sub hl [1, 0] rfl) h
set_option maxRecDepth 100000 in
set_option maxHeartbeats 4000000 in
theorem c_Q_run_s (l : Launch) (D : va_G) (ca : Nat → ClassId) (g : Bool) (a : Nat → Nat) (tl : va_W) (N : Nat) (σ σ' : St) (g' : Bool) (r : Int32) (hg : g' = g) (h : f_Q_run N g σ = some (r, g', σ')) : CtG l y_Q_run ws_Q_run rm_Q_run_s 0 0 D vCl (tyX ca) nwX [.ref (a 0)] (wX g ca a σ ++ tl) (fun u => wX g' ca (xa a u) σ' ++ tl) r := by
  refine en_G (ws' := BIG) (by decide +kernel) rfl (Nat.le_of_ble_eq_true rfl) ?_
  intro p e s m below meth c A ls R args H locs hR hx hb hr hlk hml hown hB hK hN hP hD hA hS hl
  have hl : lv_has ls 2 [(0, .ref (a 0))] := hl
  unfold f_Q_run at h
  refine lv_aload_n hx hb d_Q_run_0 rfl (lv_at hl 0 rfl) ?_
  refine Xg_0_3 hx hb hB hown (hB _ m_392) hK hP d_Q_run_1 ?_
  obtain ⟨r1, s2, hr1, h⟩ := bd_some h
  cases r1
  refine go_VV (rest := []) ⟨hx, hb, hml, hown, hB⟩ nwX_ok (c_A_clear l D ca g a tl N σ s2 hr1) (cwx_V hB m_551 kw_A_clear ⟨by rw [hR]; decide, by rw [hR]; decide⟩ rfl rfl) (va_recv hK hP (ci := 2) (q0 := 26) rfl rfl) hN hK hP hD hS hA rfl hl.1 rfl (Nat.le_of_ble_eq_true rfl) d_Q_run_4 ⟨by rw [hR]; exact Nat.le_of_ble_eq_true rfl, by rw [hR]; exact Nat.le_of_ble_eq_true rfl⟩ (fun H locs hP hD hS => ?_)
  refine lv_aload_n hx hb d_Q_run_7 rfl (lv_at hl 0 rfl) ?_
  refine Xg_0_4 hx hb hB hown (hB _ m_393) hK hP d_Q_run_8 ?_
  obtain ⟨r3, g5, s4, hr3, h⟩ := bg_some h
  refine go_VG (rest := []) ⟨hx, hb, hml, hown, hB⟩ nwX_ok (c_R_prepare_s l D ca g a tl N s2 s4 g5 r3 ((fl_tail h).symm.trans hg) hr3) (cwx_V hB m_555 kw_R_prepare ⟨by rw [hR]; decide, by rw [hR]; decide⟩ rfl rfl) (va_recv hK hP (ci := 8) (q0 := 30) rfl rfl) hN hK hP hD hS hA rfl hl.1 rfl (Nat.le_of_ble_eq_true rfl) d_Q_run_11 ⟨by rw [hR]; exact Nat.le_of_ble_eq_true rfl, by rw [hR]; exact Nat.le_of_ble_eq_true rfl⟩ (fun u6 H locs hP hD hS => ?_)
  refine lv_istore_n (lv' := [(1, .int r3), (0, .ref (a 0))]) hx hb d_Q_run_14 rfl hl (by decide) rfl (fun ls hl => ?_)
  refine lv_iload_n hx hb d_Q_run_15 rfl (lv_at hl 0 rfl) ?_
  have L28 : ∀ (σ : St) (x1 : Int32) (H : Heap) (locs : List Loc) (ls : Array Slot), va_P D vCl (wX g5 ca (xa a u6) σ ++ tl) H → va_D A (wX g5 ca (xa a u6) σ ++ tl) → va_S A s.heap H locs → lv_has ls 2 [(0, .ref (a 0)), (1, .int x1)] → f_Q_run_28 N g5 σ x1 = some (r, g', σ') → W p l e R s m args below meth c H locs 0 0 (MQ below (qb_QG D vCl (tyX ca) (fun u => wX g' ca (xa a u) σ' ++ tl) A r) args s 0 0 A) (F0 m 28 ls []) := by
    intro σ x1 H locs ls hP hD hS hl h
    unfold f_Q_run_28 at h
    refine lv_iload_n hx hb d_Q_run_28 rfl (lv_at hl 1 rfl) ?_
    have L40 : ∀ (σ : St) (x1 : Int32) (H : Heap) (locs : List Loc) (ls : Array Slot), va_P D vCl (wX g5 ca (xa a u6) σ ++ tl) H → va_D A (wX g5 ca (xa a u6) σ ++ tl) → va_S A s.heap H locs → lv_has ls 2 [(0, .ref (a 0)), (1, .int x1)] → f_Q_run_40 N g5 σ x1 = some (r, g', σ') → W p l e R s m args below meth c H locs 0 0 (MQ below (qb_QG D vCl (tyX ca) (fun u => wX g' ca (xa a u) σ' ++ tl) A r) args s 0 0 A) (F0 m 40 ls []) := by
      intro σ x1 H locs ls hP hD hS hl h
      unfold f_Q_run_40 at h
      refine lv_iload_n hx hb d_Q_run_40 rfl (lv_at hl 1 rfl) ?_
      refine lv_if_eq (tgt := 46) hx hb d_Q_run_41 (by decide) (fun hc => ?_) (fun hc => ?_)
      · replace h := it_t h hc
        refine lv_aload_n hx hb d_Q_run_46 rfl (lv_at hl 0 rfl) ?_
        refine Xg_0_3 (a := (xa a u6)) hx hb hB hown (hB _ m_392) hK hP d_Q_run_47 ?_
        refine lv_aload_n hx hb d_Q_run_50 rfl (lv_at hl 0 rfl) ?_
        refine Xg_0_2 (a := (xa a u6)) hx hb hB hown (hB _ m_391) hK hP d_Q_run_51 ?_
        obtain ⟨r7, s8, hr7, h⟩ := bd_some h
        cases r7
        refine go_VV (rest := []) ⟨hx, hb, hml, hown, hB⟩ nwX_ok (c_A_finish l D ca g5 (xa a u6) tl N σ s8 hr7) (cwx_V hB m_803 kw_A_finish ⟨by rw [hR]; decide, by rw [hR]; decide⟩ rfl rfl) (va_recv hK hP (ci := 2) (q0 := 26) rfl rfl) hN hK hP hD hS hA rfl hl.1 rfl (Nat.le_of_ble_eq_true rfl) d_Q_run_54 ⟨by rw [hR]; exact Nat.le_of_ble_eq_true rfl, by rw [hR]; exact Nat.le_of_ble_eq_true rfl⟩ (fun H locs hP hD hS => ?_)
        refine lv_aload_n hx hb d_Q_run_57 rfl (lv_at hl 0 rfl) ?_
        refine Xg_0_3 (a := (xa a u6)) hx hb hB hown (hB _ m_392) hK hP d_Q_run_58 ?_
        refine Xg_26_1 (a := (xa a u6)) hx hb hB hown (hB _ m_287) hK hP d_Q_run_61 ?_
        exact rf_G (w := fun g z x => wX g ca x z ++ tl) h rfl hx hb hr hlk hK hP hD hS d_Q_run_64
      · replace h := it_f h hc
        refine lv_iload_n hx hb d_Q_run_44 rfl (lv_at hl 1 rfl) ?_
        exact rf_G (w := fun g z x => wX g ca x z ++ tl) h rfl hx hb hr hlk hK hP hD hS d_Q_run_45
    refine lv_if_ne (tgt := 40) hx hb d_Q_run_29 (by decide) (fun hc => ?_) (fun hc => ?_)
    · replace h := it_f h hc
      exact L40 σ x1 H locs ls hP hD hS (lv_sub hl [0, 1] rfl) h
    · replace h := it_t h hc
      refine lv_aload_n hx hb d_Q_run_32 rfl (lv_at hl 0 rfl) ?_
      refine Xg_0_4 (a := (xa a u6)) hx hb hB hown (hB _ m_393) hK hP d_Q_run_33 ?_
      obtain ⟨r9, s10, hr9, h⟩ := bd_some h
      refine go_VI (rest := []) ⟨hx, hb, hml, hown, hB⟩ nwX_ok (c_R_giveGroups l D ca g5 (xa a u6) tl N σ s10 r9 hr9) (cwx_V hB m_795 kw_R_giveGroups ⟨by rw [hR]; decide, by rw [hR]; decide⟩ rfl rfl) (va_recv hK hP (ci := 8) (q0 := 30) rfl rfl) hN hK hP hD hS hA rfl hl.1 rfl (Nat.le_of_ble_eq_true rfl) d_Q_run_36 ⟨by rw [hR]; exact Nat.le_of_ble_eq_true rfl, by rw [hR]; exact Nat.le_of_ble_eq_true rfl⟩ (fun H locs hP hD hS => ?_)
      refine lv_istore_n (lv' := [(1, .int r9), (0, .ref (a 0))]) hx hb d_Q_run_39 rfl hl (by decide) rfl (fun ls hl => ?_)
      exact L40 s10 r9 H locs ls hP hD hS (lv_sub hl [1, 0] rfl) h
  refine lv_if_ne (tgt := 28) hx hb d_Q_run_16 (by decide) (fun hc => ?_) (fun hc => ?_)
  · replace h := it_f h hc
    exact L28 s4 r3 H locs ls hP hD hS (lv_sub hl [1, 0] rfl) h
  · replace h := it_t h hc
    refine lv_aload_n hx hb d_Q_run_19 rfl (lv_at hl 1 rfl) ?_
    refine Xg_0_4 (a := (xa a u6)) hx hb hB hown (hB _ m_393) hK hP d_Q_run_20 ?_
    refine lv_iconst (v := (0 : Int32)) hx hb d_Q_run_23 (by decide) ?_
    obtain ⟨r11, s12, hr11, h⟩ := bd_some h
    refine go_NI (rest := []) ⟨hx, hb, hml, hown, hB⟩ nwX_ok (c_R_joinFrom l D ca g5 (xa a u6) tl N 6 s4 s12 (0 : Int32) r11 hr11) (cwx_N hB hN (List.mem_of_getElem? (i := 2) rfl) kw_R_joinFrom ⟨by rw [hR]; decide, by rw [hR]; decide⟩ rfl rfl) (va_recv hK hP (ci := 8) (q0 := 30) rfl rfl) hN hK hP hD hS hA rfl hl.1 rfl (Nat.le_of_ble_eq_true rfl) d_Q_run_24 ⟨by rw [hR]; exact Nat.le_of_ble_eq_true rfl, by rw [hR]; exact Nat.le_of_ble_eq_true rfl⟩ (fun H locs hP hD hS => ?_)
    refine lv_istore_n (lv' := [(1, .int r11), (0, .ref (a 0))]) hx hb d_Q_run_27 rfl hl (by decide) rfl (fun ls hl => ?_)
    exact L28 s12 r11 H locs ls hP hD hS (lv_sub hl [1, 0] rfl) h
set_option maxRecDepth 100000 in
set_option maxHeartbeats 4000000 in
theorem c_A_has (l : Launch) (D : va_G) (ca : Nat → ClassId) (g : Bool) (a : Nat → Nat) (tl : va_W) (N : Nat) (σ σ' : St) (x1 : Int32) (x2 : Int32) (r : Int32) (h : f_A_has N σ x1 x2 = some (r, σ')) : CtI l y_A_has ws_A_has rm_A_has 0 0 D vCl (tyX ca) nwX [.ref (a 26), .int x1, .int x2] (wX g ca a σ ++ tl) (wX g ca a σ' ++ tl) r := by
  refine en_Z (ws' := BIG) (by decide +kernel) rfl (Nat.le_of_ble_eq_true rfl) ?_
  intro p e s m below meth c A ls R args H locs hR hx hb hr hlk hml hown hB hK hN hP hD hA hS hl
  have hl : lv_has ls 3 [(0, .ref (a 26)), (1, .int x1), (2, .int x2)] := hl
  unfold f_A_has at h
  refine lv_iload_n hx hb d_A_has_0 rfl (lv_at hl 1 rfl) ?_
  refine lv_if_lt (tgt := 28) hx hb d_A_has_1 (by decide) (fun hc => ?_) (fun hc => ?_)
  · replace h := it_t h hc
    refine lv_iconst (v := (0 : Int32)) hx hb d_A_has_28 (by decide) ?_
    exact rf_Z (w := (fun z => wX g ca a z ++ tl)) h hx hb hr hlk hK hP hD hS rfl d_A_has_29
  · replace h := it_f h hc
    refine lv_iload_n hx hb d_A_has_4 rfl (lv_at hl 1 rfl) ?_
    refine lv_aload_n hx hb d_A_has_5 rfl (lv_at hl 0 rfl) ?_
    refine Xg_26_1 hx hb hB hown (hB _ m_286) hK hP d_A_has_6 ?_
    refine lv_icmp_ge (tgt := 28) hx hb d_A_has_9 (by decide) (fun hc => ?_) (fun hc => ?_)
    · replace h := it_t h hc
      refine lv_iconst (v := (0 : Int32)) hx hb d_A_has_28 (by decide) ?_
      exact rf_Z (w := (fun z => wX g ca a z ++ tl)) h hx hb hr hlk hK hP hD hS rfl d_A_has_29
    · replace h := it_f h hc
      refine lv_iload_n hx hb d_A_has_12 rfl (lv_at hl 2 rfl) ?_
      refine lv_if_lt (tgt := 28) hx hb d_A_has_13 (by decide) (fun hc => ?_) (fun hc => ?_)
      · replace h := it_t h hc
        refine lv_iconst (v := (0 : Int32)) hx hb d_A_has_28 (by decide) ?_
        exact rf_Z (w := (fun z => wX g ca a z ++ tl)) h hx hb hr hlk hK hP hD hS rfl d_A_has_29
      · replace h := it_f h hc
        refine lv_iload_n hx hb d_A_has_16 rfl (lv_at hl 2 rfl) ?_
        refine lv_aload_n hx hb d_A_has_17 rfl (lv_at hl 0 rfl) ?_
        refine Xg_26_0 hx hb hB hown (hB _ m_284) hK hP d_A_has_18 ?_
        refine lv_icmp_ge (tgt := 28) hx hb d_A_has_21 (by decide) (fun hc => ?_) (fun hc => ?_)
        · replace h := it_t h hc
          refine lv_iconst (v := (0 : Int32)) hx hb d_A_has_28 (by decide) ?_
          exact rf_Z (w := (fun z => wX g ca a z ++ tl)) h hx hb hr hlk hK hP hD hS rfl d_A_has_29
        · replace h := it_f h hc
          refine lv_iconst (v := (1 : Int32)) hx hb d_A_has_24 (by decide) ?_
          refine lv_goto (tgt := 29) hx hb d_A_has_25 (by decide) ?_
          exact rf_Z (w := (fun z => wX g ca a z ++ tl)) h hx hb hr hlk hK hP hD hS rfl d_A_has_29
set_option maxRecDepth 100000 in
set_option maxHeartbeats 4000000 in
theorem c_A_numberOf (l : Launch) (D : va_G) (ca : Nat → ClassId) (g : Bool) (a : Nat → Nat) (tl : va_W) (N : Nat) (σ σ' : St) (x1 : Int32) (x2 : Int32) (r : Int64) (h : f_A_numberOf N σ x1 x2 = some (r, σ')) : CtL l y_A_numberOf ws_A_numberOf rm_A_numberOf 0 0 D vCl (tyX ca) nwX [.ref (a 26), .int x1, .int x2] (wX g ca a σ ++ tl) (wX g ca a σ' ++ tl) r := by
  refine en_L (ws' := BIG) (by decide +kernel) rfl (Nat.le_of_ble_eq_true rfl) ?_
  intro p e s m below meth c A ls R args H locs hR hx hb hr hlk hml hown hB hK hN hP hD hA hS hl
  have hl : lv_has ls 3 [(0, .ref (a 26)), (1, .int x1), (2, .int x2)] := hl
  unfold f_A_numberOf at h
  refine lv_aload_n hx hb d_A_numberOf_0 rfl (lv_at hl 0 rfl) ?_
  refine Xg_26_4 hx hb hB hown (hB _ m_290) hK hP d_A_numberOf_1 ?_
  refine lv_aload_n hx hb d_A_numberOf_4 rfl (lv_at hl 0 rfl) ?_
  refine Xg_26_6 hx hb hB hown (hB _ m_292) hK hP d_A_numberOf_5 ?_
  refine lv_aload_n hx hb d_A_numberOf_8 rfl (lv_at hl 0 rfl) ?_
  refine Xg_26_3 hx hb hB hown (hB _ m_289) hK hP d_A_numberOf_9 ?_
  refine lv_iload_n hx hb d_A_numberOf_12 rfl (lv_at hl 1 rfl) ?_
  refine lv_iadd hx hb d_A_numberOf_13 ?_
  obtain ⟨hi, h⟩ := ckb_some h
  refine Xa_29 hx hb hK hP hi d_A_numberOf_14 ?_
  refine lv_bipush (v := (6 : Int32)) hx hb d_A_numberOf_15 (by decide) ?_
  refine lv_imul hx hb d_A_numberOf_17 ?_
  refine lv_iload_n hx hb d_A_numberOf_18 rfl (lv_at hl 2 rfl) ?_
  refine lv_iadd hx hb d_A_numberOf_19 ?_
  obtain ⟨hi, h⟩ := ckb_some h
  refine Xa_27 hx hb hK hP hi d_A_numberOf_20 ?_
  exact rf_L (w := (fun z => wX g ca a z ++ tl)) h hx hb hr hlk hK hP hD hS d_A_numberOf_21
set_option maxRecDepth 100000 in
set_option maxHeartbeats 4000000 in
theorem c_Q_cell (l : Launch) (D : va_G) (ca : Nat → ClassId) (g : Bool) (a : Nat → Nat) (tl : va_W) (N : Nat) (σ σ' : St) (x1 : Int32) (x2 : Int32) (r : Int64) (h : f_Q_cell N σ x1 x2 = some (r, σ')) : CtL l y_Q_cell ws_Q_cell rm_Q_cell 0 0 D vCl (tyX ca) nwX [.ref (a 0), .int x1, .int x2] (wX g ca a σ ++ tl) (wX g ca a σ' ++ tl) r := by
  refine en_L (ws' := BIG) (by decide +kernel) rfl (Nat.le_of_ble_eq_true rfl) ?_
  intro p e s m below meth c A ls R args H locs hR hx hb hr hlk hml hown hB hK hN hP hD hA hS hl
  have hl : lv_has ls 3 [(0, .ref (a 0)), (1, .int x1), (2, .int x2)] := hl
  unfold f_Q_cell at h
  refine lv_aload_n hx hb d_Q_cell_0 rfl (lv_at hl 0 rfl) ?_
  refine Xg_0_3 hx hb hB hown (hB _ m_392) hK hP d_Q_cell_1 ?_
  refine lv_iload_n hx hb d_Q_cell_4 rfl (lv_at hl 1 rfl) ?_
  refine lv_iload_n hx hb d_Q_cell_5 rfl (lv_at hl 2 rfl) ?_
  obtain ⟨r1, s2, hr1, h⟩ := bd_some h
  refine go_VI (rest := []) ⟨hx, hb, hml, hown, hB⟩ nwX_ok (c_A_has l D ca g a tl N σ s2 x1 x2 r1 hr1) (cwx_V hB m_835 kw_A_has ⟨by rw [hR]; decide, by rw [hR]; decide⟩ rfl rfl) (va_recv hK hP (ci := 2) (q0 := 26) rfl rfl) hN hK hP hD hS hA rfl hl.1 rfl (Nat.le_of_ble_eq_true rfl) d_Q_cell_6 ⟨by rw [hR]; exact Nat.le_of_ble_eq_true rfl, by rw [hR]; exact Nat.le_of_ble_eq_true rfl⟩ (fun H locs hP hD hS => ?_)
  refine lv_if_eq (tgt := 24) hx hb d_Q_cell_9 (by decide) (fun hc => ?_) (fun hc => ?_)
  · replace h := it_t h hc
    refine lv_lconst (v := (0 : Int64)) hx hb d_Q_cell_24 (by decide) ?_
    exact rf_L (w := (fun z => wX g ca a z ++ tl)) h hx hb hr hlk hK hP hD hS d_Q_cell_25
  · replace h := it_f h hc
    refine lv_aload_n hx hb d_Q_cell_12 rfl (lv_at hl 0 rfl) ?_
    refine Xg_0_3 hx hb hB hown (hB _ m_392) hK hP d_Q_cell_13 ?_
    refine lv_iload_n hx hb d_Q_cell_16 rfl (lv_at hl 1 rfl) ?_
    refine lv_iload_n hx hb d_Q_cell_17 rfl (lv_at hl 2 rfl) ?_
    obtain ⟨r3, s4, hr3, h⟩ := bd_some h
    refine go_VL (rest := []) ⟨hx, hb, hml, hown, hB⟩ nwX_ok (c_A_numberOf l D ca g a tl N s2 s4 x1 x2 r3 hr3) (cwx_V hB m_839 kw_A_numberOf ⟨by rw [hR]; decide, by rw [hR]; decide⟩ rfl rfl) (va_recv hK hP (ci := 2) (q0 := 26) rfl rfl) hN hK hP hD hS hA rfl hl.1 rfl (Nat.le_of_ble_eq_true rfl) d_Q_cell_18 ⟨by rw [hR]; exact Nat.le_of_ble_eq_true rfl, by rw [hR]; exact Nat.le_of_ble_eq_true rfl⟩ (fun H locs hP hD hS => ?_)
    refine lv_goto (tgt := 25) hx hb d_Q_cell_21 (by decide) ?_
    exact rf_L (w := (fun z => wX g ca a z ++ tl)) h hx hb hr hlk hK hP hD hS d_Q_cell_25
set_option maxRecDepth 100000 in
set_option maxHeartbeats 4000000 in
theorem c_A_lacks (l : Launch) (D : va_G) (ca : Nat → ClassId) (g : Bool) (a : Nat → Nat) (tl : va_W) (N : Nat) (σ σ' : St) (x1 : Int32) (x2 : Int32) (r : Int32) (h : f_A_lacks N σ x1 x2 = some (r, σ')) : CtI l y_A_lacks ws_A_lacks rm_A_lacks 0 0 D vCl (tyX ca) nwX [.ref (a 26), .int x1, .int x2] (wX g ca a σ ++ tl) (wX g ca a σ' ++ tl) r := by
  refine en_Z (ws' := BIG) (by decide +kernel) rfl (Nat.le_of_ble_eq_true rfl) ?_
  intro p e s m below meth c A ls R args H locs hR hx hb hr hlk hml hown hB hK hN hP hD hA hS hl
  have hl : lv_has ls 3 [(0, .ref (a 26)), (1, .int x1), (2, .int x2)] := hl
  unfold f_A_lacks at h
  refine lv_aload_n hx hb d_A_lacks_0 rfl (lv_at hl 0 rfl) ?_
  refine lv_aload_n hx hb d_A_lacks_1 rfl (lv_at hl 0 rfl) ?_
  refine Xg_26_6 hx hb hB hown (hB _ m_292) hK hP d_A_lacks_2 ?_
  refine lv_aload_n hx hb d_A_lacks_5 rfl (lv_at hl 0 rfl) ?_
  refine Xg_26_3 hx hb hB hown (hB _ m_289) hK hP d_A_lacks_6 ?_
  refine lv_iload_n hx hb d_A_lacks_9 rfl (lv_at hl 1 rfl) ?_
  refine lv_iadd hx hb d_A_lacks_10 ?_
  obtain ⟨hi, h⟩ := ckb_some h
  refine Xa_29 hx hb hK hP hi d_A_lacks_11 ?_
  refine lv_iload_n hx hb d_A_lacks_12 rfl (lv_at hl 2 rfl) ?_
  obtain ⟨r1, s2, hr1, h⟩ := bd_some h
  refine go_VI (rest := []) ⟨hx, hb, hml, hown, hB⟩ nwX_ok (c_A_isNullAt l D ca g a tl N σ s2 (ga σ 21 (((gi σ 15) + x1)).toNatClampNeg) x2 r1 hr1) (cwx_V hB m_823 kw_A_isNullAt ⟨by rw [hR]; decide, by rw [hR]; decide⟩ rfl rfl) (va_recv hK hP (ci := 2) (q0 := 26) rfl rfl) hN hK hP hD hS hA rfl hl.1 rfl (Nat.le_of_ble_eq_true rfl) d_A_lacks_13 ⟨by rw [hR]; exact Nat.le_of_ble_eq_true rfl, by rw [hR]; exact Nat.le_of_ble_eq_true rfl⟩ (fun H locs hP hD hS => ?_)
  obtain ⟨hi, h⟩ := ckt_some h
  exact rf_Z (w := (fun z => wX g ca a z ++ tl)) h hx hb hr hlk hK hP hD hS hi.1 d_A_lacks_16
set_option maxRecDepth 100000 in
set_option maxHeartbeats 4000000 in
theorem c_Q_isNull (l : Launch) (D : va_G) (ca : Nat → ClassId) (g : Bool) (a : Nat → Nat) (tl : va_W) (N : Nat) (σ σ' : St) (x1 : Int32) (x2 : Int32) (r : Int32) (h : f_Q_isNull N σ x1 x2 = some (r, σ')) : CtI l y_Q_isNull ws_Q_isNull rm_Q_isNull 0 0 D vCl (tyX ca) nwX [.ref (a 0), .int x1, .int x2] (wX g ca a σ ++ tl) (wX g ca a σ' ++ tl) r := by
  refine en_Z (ws' := BIG) (by decide +kernel) rfl (Nat.le_of_ble_eq_true rfl) ?_
  intro p e s m below meth c A ls R args H locs hR hx hb hr hlk hml hown hB hK hN hP hD hA hS hl
  have hl : lv_has ls 3 [(0, .ref (a 0)), (1, .int x1), (2, .int x2)] := hl
  unfold f_Q_isNull at h
  refine lv_aload_n hx hb d_Q_isNull_0 rfl (lv_at hl 0 rfl) ?_
  refine Xg_0_3 hx hb hB hown (hB _ m_392) hK hP d_Q_isNull_1 ?_
  refine lv_iload_n hx hb d_Q_isNull_4 rfl (lv_at hl 1 rfl) ?_
  refine lv_iload_n hx hb d_Q_isNull_5 rfl (lv_at hl 2 rfl) ?_
  obtain ⟨r1, s2, hr1, h⟩ := bd_some h
  refine go_VI (rest := []) ⟨hx, hb, hml, hown, hB⟩ nwX_ok (c_A_has l D ca g a tl N σ s2 x1 x2 r1 hr1) (cwx_V hB m_835 kw_A_has ⟨by rw [hR]; decide, by rw [hR]; decide⟩ rfl rfl) (va_recv hK hP (ci := 2) (q0 := 26) rfl rfl) hN hK hP hD hS hA rfl hl.1 rfl (Nat.le_of_ble_eq_true rfl) d_Q_isNull_6 ⟨by rw [hR]; exact Nat.le_of_ble_eq_true rfl, by rw [hR]; exact Nat.le_of_ble_eq_true rfl⟩ (fun H locs hP hD hS => ?_)
  refine lv_if_eq (tgt := 28) hx hb d_Q_isNull_9 (by decide) (fun hc => ?_) (fun hc => ?_)
  · replace h := it_t h hc
    refine lv_iconst (v := (0 : Int32)) hx hb d_Q_isNull_28 (by decide) ?_
    exact rf_Z (w := (fun z => wX g ca a z ++ tl)) h hx hb hr hlk hK hP hD hS rfl d_Q_isNull_29
  · replace h := it_f h hc
    refine lv_aload_n hx hb d_Q_isNull_12 rfl (lv_at hl 0 rfl) ?_
    refine Xg_0_3 hx hb hB hown (hB _ m_392) hK hP d_Q_isNull_13 ?_
    refine lv_iload_n hx hb d_Q_isNull_16 rfl (lv_at hl 1 rfl) ?_
    refine lv_iload_n hx hb d_Q_isNull_17 rfl (lv_at hl 2 rfl) ?_
    obtain ⟨r3, s4, hr3, h⟩ := bd_some h
    refine go_VI (rest := []) ⟨hx, hb, hml, hown, hB⟩ nwX_ok (c_A_lacks l D ca g a tl N s2 s4 x1 x2 r3 hr3) (cwx_V hB m_847 kw_A_lacks ⟨by rw [hR]; decide, by rw [hR]; decide⟩ rfl rfl) (va_recv hK hP (ci := 2) (q0 := 26) rfl rfl) hN hK hP hD hS hA rfl hl.1 rfl (Nat.le_of_ble_eq_true rfl) d_Q_isNull_18 ⟨by rw [hR]; exact Nat.le_of_ble_eq_true rfl, by rw [hR]; exact Nat.le_of_ble_eq_true rfl⟩ (fun H locs hP hD hS => ?_)
    refine lv_if_eq (tgt := 28) hx hb d_Q_isNull_21 (by decide) (fun hc => ?_) (fun hc => ?_)
    · replace h := it_t h hc
      refine lv_iconst (v := (0 : Int32)) hx hb d_Q_isNull_28 (by decide) ?_
      exact rf_Z (w := (fun z => wX g ca a z ++ tl)) h hx hb hr hlk hK hP hD hS rfl d_Q_isNull_29
    · replace h := it_f h hc
      refine lv_iconst (v := (1 : Int32)) hx hb d_Q_isNull_24 (by decide) ?_
      refine lv_goto (tgt := 29) hx hb d_Q_isNull_25 (by decide) ?_
      exact rf_Z (w := (fun z => wX g ca a z ++ tl)) h hx hb hr hlk hK hP hD hS rfl d_Q_isNull_29
set_option maxRecDepth 100000 in
set_option maxHeartbeats 4000000 in
theorem c_Q_answer (l : Launch) (D : va_G) (ca : Nat → ClassId) (g : Bool) (a : Nat → Nat) (tl : va_W) (N : Nat) (σ σ' : St) (x1 : Int32) (r : Int32) (h : f_Q_answer N σ x1 = some (r, σ')) : CtI l y_Q_answer ws_Q_answer rm_Q_answer 0 0 D vCl (tyX ca) nwX [.ref (a 0), .int x1] (wX g ca a σ ++ tl) (wX g ca a σ' ++ tl) r := by
  refine en_I (ws' := BIG) (by decide +kernel) rfl (Nat.le_of_ble_eq_true rfl) ?_
  intro p e s m below meth c A ls R args H locs hR hx hb hr hlk hml hown hB hK hN hP hD hA hS hl
  have hl : lv_has ls 2 [(0, .ref (a 0)), (1, .int x1)] := hl
  unfold f_Q_answer at h
  refine lv_iload_n hx hb d_Q_answer_0 rfl (lv_at hl 1 rfl) ?_
  refine lv_if_ne (tgt := 12) hx hb d_Q_answer_1 (by decide) (fun hc => ?_) (fun hc => ?_)
  · replace h := it_f h hc
    refine lv_iload_n hx hb d_Q_answer_12 rfl (lv_at hl 1 rfl) ?_
    refine lv_iconst (v := (1 : Int32)) hx hb d_Q_answer_13 (by decide) ?_
    refine lv_icmp_ne (tgt := 27) hx hb d_Q_answer_14 (by decide) (fun hc => ?_) (fun hc => ?_)
    · replace h := it_f h hc
      refine lv_iconst (v := (-1 : Int32)) hx hb d_Q_answer_27 (by decide) ?_
      exact rf_I (w := (fun z => wX g ca a z ++ tl)) h hx hb hr hlk hK hP hD hS d_Q_answer_28
    · replace h := it_t h hc
      refine lv_aload_n hx hb d_Q_answer_17 rfl (lv_at hl 0 rfl) ?_
      refine Xg_0_3 hx hb hB hown (hB _ m_392) hK hP d_Q_answer_18 ?_
      refine Xg_26_0 hx hb hB hown (hB _ m_285) hK hP d_Q_answer_21 ?_
      refine lv_goto (tgt := 28) hx hb d_Q_answer_24 (by decide) ?_
      exact rf_I (w := (fun z => wX g ca a z ++ tl)) h hx hb hr hlk hK hP hD hS d_Q_answer_28
  · replace h := it_t h hc
    refine lv_aload_n hx hb d_Q_answer_4 rfl (lv_at hl 0 rfl) ?_
    refine Xg_0_3 hx hb hB hown (hB _ m_392) hK hP d_Q_answer_5 ?_
    refine Xg_26_1 hx hb hB hown (hB _ m_287) hK hP d_Q_answer_8 ?_
    exact rf_I (w := (fun z => wX g ca a z ++ tl)) h hx hb hr hlk hK hP hD hS d_Q_answer_11
