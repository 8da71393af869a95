set_option maxRecDepth 100000 in
set_option maxHeartbeats 4000000 in
theorem c_V_junction_b (l : Launch) (D : va_G) (ca : Nat → ClassId) (g : Bool) (a : Nat → Nat) (tl : va_W) (N : Nat) (n : Nat) (RC : Nat → St → Int32 → Int32 → Option (Int32 × St)) (HR0 : ∀ (σ σ' : St) (x1 : Int32) (x2 : Int32) (r : Int32), RC 0 σ x1 x2 = some (r, σ') → CtI l y_V_value ws_V_value (rm_ev n) 0 0 D vCl (tyX ca) nwX [.ref (a 33), .int x1, .int x2] (wX g ca a σ ++ tl) (wX g ca a σ' ++ tl) r) (HR1 : ∀ (σ σ' : St) (x1 : Int32) (x2 : Int32) (r : Int32), RC 1 σ x1 x2 = some (r, σ') → CtI l y_V_truth ws_V_truth (rm_ev n) 0 0 D vCl (tyX ca) nwX [.ref (a 33), .int x1, .int x2] (wX g ca a σ ++ tl) (wX g ca a σ' ++ tl) r) (HR2 : ∀ (σ σ' : St) (x1 : Int32) (x2 : Int32) (r : Int32), RC 2 σ x1 x2 = some (r, σ') → CtI l y_V_operands ws_V_operands (rm_ev n) 0 0 D vCl (tyX ca) nwX [.ref (a 33), .int x1, .int x2] (wX g ca a σ ++ tl) (wX g ca a σ' ++ tl) r) (HR3 : ∀ (σ σ' : St) (x1 : Int32) (x2 : Int32) (r : Int32), RC 3 σ x1 x2 = some (r, σ') → CtI l y_V_junction ws_V_junction (rm_ev n) 0 0 D vCl (tyX ca) nwX [.ref (a 33), .int x1, .int x2] (wX g ca a σ ++ tl) (wX g ca a σ' ++ tl) r) (σ σ' : St) (x1 : Int32) (x2 : Int32) (r : Int32) (h : f_V_junction_b N g RC σ x1 x2 = some (r, σ')) : CtI l y_V_junction ws_V_junction (rm_ev (n + 1)) 0 0 D vCl (tyX ca) nwX [.ref (a 33), .int x1, .int x2] (wX g ca a σ ++ tl) (wX g ca a σ' ++ tl) r := by
  refine en_I (ws' := BIG) (by decide +kernel) rfl (Nat.le_of_ble_eq_true rfl) ?_
  intro p e s m below meth c A ls R args H locs hR hx hb hr hlk hml hown hB hK hN hP hD hA hS hl
  have hl : lv_has ls 6 [(0, .ref (a 33)), (1, .int x1), (2, .int x2)] := hl
  unfold f_V_junction_b at h
  refine lv_aload_n hx hb d_V_junction_0 rfl (lv_at hl 0 rfl) ?_
  refine Xg_33_1 hx hb hB hown (hB _ m_340) hK hP d_V_junction_1 ?_
  refine Xg_6_2 hx hb hB hown (hB _ m_138) hK hP d_V_junction_4 ?_
  refine lv_iload_n hx hb d_V_junction_7 rfl (lv_at hl 1 rfl) ?_
  obtain ⟨hi, h⟩ := ckb_some h
  refine Xa_7 hx hb hK hP hi d_V_junction_8 ?_
  refine lv_bipush (v := (9 : Int32)) hx hb d_V_junction_9 (by decide) ?_
  have L19 : ∀ (σ : St) (x1 : Int32) (x2 : Int32) (t0 : Int32) (H : Heap) (locs : List Loc) (ls : Array Slot), va_P D vCl (wX g ca a σ ++ tl) H → va_D A (wX g ca a σ ++ tl) → va_S A s.heap H locs → lv_has ls 6 [(0, .ref (a 33)), (1, .int x1), (2, .int x2)] → f_V_junction_19 N g RC σ x1 x2 t0 = some (r, σ') → W p l e R s m args below meth c H locs 0 0 (MQ below (qb_QI D vCl (tyX ca) (wX g ca a σ' ++ tl) A r) args s 0 0 A) (F0 m 19 ls [.int t0]) := by
    intro σ x1 x2 t0 H locs ls hP hD hS hl h
    unfold f_V_junction_19 at h
    refine lv_istore_n (lv' := [(3, .int t0), (0, .ref (a 33)), (1, .int x1), (2, .int x2)]) hx hb d_V_junction_19 rfl hl (by decide) rfl (fun ls hl => ?_)
    refine lv_aload_n hx hb d_V_junction_20 rfl (lv_at hl 1 rfl) ?_
    refine lv_aload_n hx hb d_V_junction_21 rfl (lv_at hl 1 rfl) ?_
    refine Xg_33_1 hx hb hB hown (hB _ m_340) hK hP d_V_junction_22 ?_
    refine Xg_6_4 hx hb hB hown (hB _ m_143) hK hP d_V_junction_25 ?_
    refine lv_iload_n hx hb d_V_junction_28 rfl (lv_at hl 2 rfl) ?_
    obtain ⟨hi, h⟩ := ckb_some h
    refine Xa_9 hx hb hK hP hi d_V_junction_29 ?_
    refine lv_iload_n hx hb d_V_junction_30 rfl (lv_at hl 3 rfl) ?_
    refine lv_iconst (v := (1 : Int32)) hx hb d_V_junction_31 (by decide) ?_
    refine lv_iadd hx hb d_V_junction_32 ?_
    obtain ⟨r1, s2, hr1, h⟩ := bd_some h
    refine go_VI (rest := []) ⟨hx, hb, hml, hown, hB⟩ nwX_ok (HR1 σ s2 (ga σ 4 (x1).toNatClampNeg) (x2 + (1 : Int32)) r1 hr1) (cwx_V hB m_685 kw_V_truth ⟨by rw [hR]; simp only [rm_ev]; omega, by rw [hR]; simp only [rm_ev]; omega⟩ rfl rfl) (va_recv hK hP (ci := 4) (q0 := 33) rfl rfl) hN hK hP hD hS hA rfl hl.1 rfl (Nat.le_of_ble_eq_true rfl) d_V_junction_33 ⟨by rw [hR]; exact Nat.le_of_ble_eq_true rfl, by rw [hR]; exact Nat.le_of_ble_eq_true rfl⟩ (fun H locs hP hD hS => ?_)
    refine lv_istore (lv' := [(4, .int r1), (3, .int t0), (0, .ref (a 33)), (1, .int x1), (2, .int x2)]) hx hb d_V_junction_36 hl (by decide) rfl (fun ls hl => ?_)
    refine lv_iload hx hb d_V_junction_38 (lv_at hl 0 rfl) ?_
    refine lv_if_lt (tgt := 49) hx hb d_V_junction_40 (by decide) (fun hc => ?_) (fun hc => ?_)
    · replace h := it_t h hc
      refine lv_iload hx hb d_V_junction_49 (lv_at hl 0 rfl) ?_
      exact rf_I (w := (fun z => wX g ca a z ++ tl)) h hx hb hr hlk hK hP hD hS d_V_junction_51
    · replace h := it_f h hc
      refine lv_iload hx hb d_V_junction_43 (lv_at hl 0 rfl) ?_
      refine lv_iload_n hx hb d_V_junction_45 rfl (lv_at hl 1 rfl) ?_
      refine lv_icmp_ne (tgt := 52) hx hb d_V_junction_46 (by decide) (fun hc => ?_) (fun hc => ?_)
      · replace h := it_f h hc
        refine lv_aload_n hx hb d_V_junction_52 rfl (lv_at hl 2 rfl) ?_
        refine lv_aload_n hx hb d_V_junction_53 rfl (lv_at hl 2 rfl) ?_
        refine Xg_33_1 hx hb hB hown (hB _ m_340) hK hP d_V_junction_54 ?_
        refine Xg_6_5 hx hb hB hown (hB _ m_146) hK hP d_V_junction_57 ?_
        refine lv_iload_n hx hb d_V_junction_60 rfl (lv_at hl 3 rfl) ?_
        obtain ⟨hi, h⟩ := ckb_some h
        refine Xa_10 hx hb hK hP hi d_V_junction_61 ?_
        refine lv_iload_n hx hb d_V_junction_62 rfl (lv_at hl 4 rfl) ?_
        refine lv_iconst (v := (1 : Int32)) hx hb d_V_junction_63 (by decide) ?_
        refine lv_iadd hx hb d_V_junction_64 ?_
        obtain ⟨r3, s4, hr3, h⟩ := bd_some h
        refine go_VI (rest := []) ⟨hx, hb, hml, hown, hB⟩ nwX_ok (HR1 s2 s4 (ga s2 5 (x1).toNatClampNeg) (x2 + (1 : Int32)) r3 hr3) (cwx_V hB m_685 kw_V_truth ⟨by rw [hR]; simp only [rm_ev]; omega, by rw [hR]; simp only [rm_ev]; omega⟩ rfl rfl) (va_recv hK hP (ci := 4) (q0 := 33) rfl rfl) hN hK hP hD hS hA rfl hl.1 rfl (Nat.le_of_ble_eq_true rfl) d_V_junction_65 ⟨by rw [hR]; exact Nat.le_of_ble_eq_true rfl, by rw [hR]; exact Nat.le_of_ble_eq_true rfl⟩ (fun H locs hP hD hS => ?_)
        refine lv_istore (lv' := [(5, .int r3), (4, .int r1), (3, .int t0), (0, .ref (a 33)), (1, .int x1), (2, .int x2)]) hx hb d_V_junction_68 hl (by decide) rfl (fun ls hl => ?_)
        refine lv_iload hx hb d_V_junction_70 (lv_at hl 0 rfl) ?_
        refine lv_if_lt (tgt := 81) hx hb d_V_junction_72 (by decide) (fun hc => ?_) (fun hc => ?_)
        · replace h := it_t h hc
          refine lv_iload hx hb d_V_junction_81 (lv_at hl 0 rfl) ?_
          exact rf_I (w := (fun z => wX g ca a z ++ tl)) h hx hb hr hlk hK hP hD hS d_V_junction_83
        · replace h := it_f h hc
          refine lv_iload hx hb d_V_junction_75 (lv_at hl 0 rfl) ?_
          refine lv_iload_n hx hb d_V_junction_77 rfl (lv_at hl 2 rfl) ?_
          refine lv_icmp_ne (tgt := 84) hx hb d_V_junction_78 (by decide) (fun hc => ?_) (fun hc => ?_)
          · replace h := it_f h hc
            refine lv_iload hx hb d_V_junction_84 (lv_at hl 1 rfl) ?_
            refine lv_iconst (v := (2 : Int32)) hx hb d_V_junction_86 (by decide) ?_
            refine lv_icmp_ne (tgt := 94) hx hb d_V_junction_87 (by decide) (fun hc => ?_) (fun hc => ?_)
            · replace h := it_f h hc
              refine lv_iload hx hb d_V_junction_94 (lv_at hl 0 rfl) ?_
              exact rf_I (w := (fun z => wX g ca a z ++ tl)) h hx hb hr hlk hK hP hD hS d_V_junction_96
            · replace h := it_t h hc
              refine lv_iconst (v := (2 : Int32)) hx hb d_V_junction_90 (by decide) ?_
              refine lv_goto (tgt := 96) hx hb d_V_junction_91 (by decide) ?_
              exact rf_I (w := (fun z => wX g ca a z ++ tl)) h hx hb hr hlk hK hP hD hS d_V_junction_96
          · replace h := it_t h hc
            refine lv_iload hx hb d_V_junction_81 (lv_at hl 0 rfl) ?_
            exact rf_I (w := (fun z => wX g ca a z ++ tl)) h hx hb hr hlk hK hP hD hS d_V_junction_83
      · replace h := it_t h hc
        refine lv_iload hx hb d_V_junction_49 (lv_at hl 0 rfl) ?_
        exact rf_I (w := (fun z => wX g ca a z ++ tl)) h hx hb hr hlk hK hP hD hS d_V_junction_51
  refine lv_icmp_ne (tgt := 18) hx hb d_V_junction_11 (by decide) (fun hc => ?_) (fun hc => ?_)
  · replace h := it_f h hc
    refine lv_iconst (v := (1 : Int32)) hx hb d_V_junction_18 (by decide) ?_
    exact L19 σ x1 x2 (1 : Int32) H locs ls hP hD hS (lv_sub hl [0, 1, 2] rfl) h
  · replace h := it_t h hc
    refine lv_iconst (v := (0 : Int32)) hx hb d_V_junction_14 (by decide) ?_
    refine lv_goto (tgt := 19) hx hb d_V_junction_15 (by decide) ?_
    exact L19 σ x1 x2 (0 : Int32) H locs ls hP hD hS (lv_sub hl [0, 1, 2] rfl) h
set_option maxRecDepth 100000 in
set_option maxHeartbeats 4000000 in
theorem c_ev (l : Launch) (D : va_G) (ca : Nat → ClassId) (g : Bool) (a : Nat → Nat) (tl : va_W) (N : Nat) : ∀ n : Nat, (∀ (σ σ' : St) (x1 : Int32) (x2 : Int32) (r : Int32), f_ev N g n 0 σ x1 x2 = some (r, σ') → CtI l y_V_value ws_V_value (rm_ev n) 0 0 D vCl (tyX ca) nwX [.ref (a 33), .int x1, .int x2] (wX g ca a σ ++ tl) (wX g ca a σ' ++ tl) r) ∧ (∀ (σ σ' : St) (x1 : Int32) (x2 : Int32) (r : Int32), f_ev N g n 1 σ x1 x2 = some (r, σ') → CtI l y_V_truth ws_V_truth (rm_ev n) 0 0 D vCl (tyX ca) nwX [.ref (a 33), .int x1, .int x2] (wX g ca a σ ++ tl) (wX g ca a σ' ++ tl) r) ∧ (∀ (σ σ' : St) (x1 : Int32) (x2 : Int32) (r : Int32), f_ev N g n 2 σ x1 x2 = some (r, σ') → CtI l y_V_operands ws_V_operands (rm_ev n) 0 0 D vCl (tyX ca) nwX [.ref (a 33), .int x1, .int x2] (wX g ca a σ ++ tl) (wX g ca a σ' ++ tl) r) ∧ (∀ (σ σ' : St) (x1 : Int32) (x2 : Int32) (r : Int32), f_ev N g n 3 σ x1 x2 = some (r, σ') → CtI l y_V_junction ws_V_junction (rm_ev n) 0 0 D vCl (tyX ca) nwX [.ref (a 33), .int x1, .int x2] (wX g ca a σ ++ tl) (wX g ca a σ' ++ tl) r) := by
  intro n
  induction n with
  | zero => exact ⟨fun σ σ' x1 x2 r h => (by cases h), fun σ σ' x1 x2 r h => (by cases h), fun σ σ' x1 x2 r h => (by cases h), fun σ σ' x1 x2 r h => (by cases h)⟩
  | succ n ih =>
    obtain ⟨i0, i1, i2, i3⟩ := ih
    exact ⟨fun σ σ' x1 x2 r h => c_V_value_b l D ca g a tl N n (f_ev N g n) i0 i1 i2 i3 σ σ' x1 x2 r h, fun σ σ' x1 x2 r h => c_V_truth_b l D ca g a tl N n (f_ev N g n) i0 i1 i2 i3 σ σ' x1 x2 r h, fun σ σ' x1 x2 r h => c_V_operands_b l D ca g a tl N n (f_ev N g n) i0 i1 i2 i3 σ σ' x1 x2 r h, fun σ σ' x1 x2 r h => c_V_junction_b l D ca g a tl N n (f_ev N g n) i0 i1 i2 i3 σ σ' x1 x2 r h⟩
theorem c_V_value (l : Launch) (D : va_G) (ca : Nat → ClassId) (g : Bool) (a : Nat → Nat) (tl : va_W) (N : Nat) (n : Nat) (σ σ' : St) (x1 : Int32) (x2 : Int32) (r : Int32) (h : f_ev N g n 0 σ x1 x2 = some (r, σ')) : CtI l y_V_value ws_V_value (rm_ev n) 0 0 D vCl (tyX ca) nwX [.ref (a 33), .int x1, .int x2] (wX g ca a σ ++ tl) (wX g ca a σ' ++ tl) r := (c_ev l D ca g a tl N n).1 σ σ' x1 x2 r h
theorem c_V_truth (l : Launch) (D : va_G) (ca : Nat → ClassId) (g : Bool) (a : Nat → Nat) (tl : va_W) (N : Nat) (n : Nat) (σ σ' : St) (x1 : Int32) (x2 : Int32) (r : Int32) (h : f_ev N g n 1 σ x1 x2 = some (r, σ')) : CtI l y_V_truth ws_V_truth (rm_ev n) 0 0 D vCl (tyX ca) nwX [.ref (a 33), .int x1, .int x2] (wX g ca a σ ++ tl) (wX g ca a σ' ++ tl) r := (c_ev l D ca g a tl N n).2.1 σ σ' x1 x2 r h
theorem c_V_operands (l : Launch) (D : va_G) (ca : Nat → ClassId) (g : Bool) (a : Nat → Nat) (tl : va_W) (N : Nat) (n : Nat) (σ σ' : St) (x1 : Int32) (x2 : Int32) (r : Int32) (h : f_ev N g n 2 σ x1 x2 = some (r, σ')) : CtI l y_V_operands ws_V_operands (rm_ev n) 0 0 D vCl (tyX ca) nwX [.ref (a 33), .int x1, .int x2] (wX g ca a σ ++ tl) (wX g ca a σ' ++ tl) r := (c_ev l D ca g a tl N n).2.2.1 σ σ' x1 x2 r h
theorem c_V_junction (l : Launch) (D : va_G) (ca : Nat → ClassId) (g : Bool) (a : Nat → Nat) (tl : va_W) (N : Nat) (n : Nat) (σ σ' : St) (x1 : Int32) (x2 : Int32) (r : Int32) (h : f_ev N g n 3 σ x1 x2 = some (r, σ')) : CtI l y_V_junction ws_V_junction (rm_ev n) 0 0 D vCl (tyX ca) nwX [.ref (a 33), .int x1, .int x2] (wX g ca a σ ++ tl) (wX g ca a σ' ++ tl) r := (c_ev l D ca g a tl N n).2.2.2 σ σ' x1 x2 r h
set_option maxRecDepth 100000 in
set_option maxHeartbeats 4000000 in
theorem c_A_setItem (l : Launch) (D : va_G) (ca : Nat → ClassId) (g : Bool) (a : Nat → Nat) (tl : va_W) (N : Nat) (σ σ' : St) (x1 : Int32) (x2 : Int32) (x3 : Int64) (h : f_A_setItem N σ x1 x2 x3 = some ((), σ')) : CtV l y_A_setItem ws_A_setItem rm_A_setItem 0 0 D vCl (tyX ca) nwX [.ref (a 26), .int x1, .int x2, .long x3] (wX g ca a σ ++ tl) (wX g ca a σ' ++ tl) := by
  refine en_V (ws' := BIG) (by decide +kernel) rfl (Nat.le_of_ble_eq_true rfl) ?_
  intro p e s m below meth c A ls R args H locs hR hx hb hr hlk hml hown hB hK hN hP hD hA hS hl
  have hl : lv_has ls 5 [(0, .ref (a 26)), (1, .int x1), (2, .int x2), (3, .long x3)] := hl
  unfold f_A_setItem at h
  refine lv_aload_n hx hb d_A_setItem_0 rfl (lv_at hl 0 rfl) ?_
  refine Xg_26_4 hx hb hB hown (hB _ m_290) hK hP d_A_setItem_1 ?_
  refine lv_aload_n hx hb d_A_setItem_4 rfl (lv_at hl 0 rfl) ?_
  refine Xg_26_2 hx hb hB hown (hB _ m_288) hK hP d_A_setItem_5 ?_
  refine lv_bipush (v := (6 : Int32)) hx hb d_A_setItem_8 (by decide) ?_
  refine lv_imul hx hb d_A_setItem_10 ?_
  refine lv_iload_n hx hb d_A_setItem_11 rfl (lv_at hl 1 rfl) ?_
  refine lv_iadd hx hb d_A_setItem_12 ?_
  refine lv_iload_n hx hb d_A_setItem_13 rfl (lv_at hl 2 rfl) ?_
  have L22 : ∀ (σ : St) (x1 : Int32) (x2 : Int32) (t0 : Int64) (t1 : Int32) (H : Heap) (locs : List Loc) (ls : Array Slot), va_P D vCl (wX g ca a σ ++ tl) H → va_D A (wX g ca a σ ++ tl) → va_S A s.heap H locs → lv_has ls 5 [(0, .ref (a 26)), (1, .int x1), (2, .int x2)] → f_A_setItem_22 N σ x1 x2 t0 t1 = some ((), σ') → W p l e R s m args below meth c H locs 0 0 (MQ below (qb_QV D vCl (tyX ca) (wX g ca a σ' ++ tl) A) args s 0 0 A) (F0 m 22 ls [.long t0, .int t1, .ref (a 27)]) := by
    intro σ x1 x2 t0 t1 H locs ls hP hD hS hl h
    unfold f_A_setItem_22 at h
    obtain ⟨hi, h⟩ := ckb_some h
    obtain ⟨s1, es1, h⟩ := nm_some h
    refine Xs_27 es1 hx hb hK hP hD hS hi d_A_setItem_22 (fun H locs hP hD hS => ?_)
    refine lv_iload_n hx hb d_A_setItem_23 rfl (lv_at hl 2 rfl) ?_
    refine lv_if_ne (tgt := 42) hx hb d_A_setItem_24 (by decide) (fun hc => ?_) (fun hc => ?_)
    · replace h := it_f h hc
      exact rf_V (w := (fun z => wX g ca a z ++ tl)) h hx hb hr hlk hK hP hD hS d_A_setItem_42
    · replace h := it_t h hc
      refine lv_aload_n hx hb d_A_setItem_27 rfl (lv_at hl 0 rfl) ?_
      refine Xg_26_5 hx hb hB hown (hB _ m_291) hK hP d_A_setItem_28 ?_
      refine lv_aload_n hx hb d_A_setItem_31 rfl (lv_at hl 0 rfl) ?_
      refine Xg_26_2 hx hb hB hown (hB _ m_288) hK hP d_A_setItem_32 ?_
      refine lv_dup2_11 hx hb d_A_setItem_35 rfl rfl ?_
      obtain ⟨hi, h⟩ := ckb_some h
      refine Xa_28 hx hb hK hP hi d_A_setItem_36 ?_
      refine lv_iconst (v := (1 : Int32)) hx hb d_A_setItem_37 (by decide) ?_
      refine lv_iload_n hx hb d_A_setItem_38 rfl (lv_at hl 1 rfl) ?_
      refine lv_ishl hx hb d_A_setItem_39 ?_
      refine lv_ior hx hb d_A_setItem_40 ?_
      obtain ⟨hi, h⟩ := ckb_some h
      obtain ⟨s2, es2, h⟩ := nm_some h
      refine Xs_28 es2 hx hb hK hP hD hS hi d_A_setItem_41 (fun H locs hP hD hS => ?_)
      exact rf_V (w := (fun z => wX g ca a z ++ tl)) h hx hb hr hlk hK hP hD hS d_A_setItem_42
  refine lv_if_ne (tgt := 21) hx hb d_A_setItem_14 (by decide) (fun hc => ?_) (fun hc => ?_)
  · replace h := it_f h hc
    refine lv_lload_n hx hb d_A_setItem_21 rfl (lv_at hl 3 rfl) ?_
    exact L22 σ x1 x2 x3 (((gi σ 14) * (6 : Int32)) + x1) H locs ls hP hD hS (lv_sub hl [0, 1, 2] rfl) h
  · replace h := it_t h hc
    refine lv_lconst (v := (0 : Int64)) hx hb d_A_setItem_17 (by decide) ?_
    refine lv_goto (tgt := 22) hx hb d_A_setItem_18 (by decide) ?_
    exact L22 σ x1 x2 (0 : Int64) (((gi σ 14) * (6 : Int32)) + x1) H locs ls hP hD hS (lv_sub hl [0, 1, 2] rfl) h
set_option maxRecDepth 100000 in
set_option maxHeartbeats 4000000 in
theorem c_R_giveRow (l : Launch) (D : va_G) (ca : Nat → ClassId) (g : Bool) (a : Nat → Nat) (tl : va_W) (N : Nat) (σ σ' : St) (r : Int32) (h : f_R_giveRow N g σ = some (r, σ')) : CtI l y_R_giveRow ws_R_giveRow rm_R_giveRow 0 0 D vCl (tyX ca) nwX [.ref (a 30)] (wX g ca a σ ++ tl) (wX g ca a σ' ++ tl) r := by
  refine en_I (ws' := BIG) (by decide +kernel) rfl (Nat.le_of_ble_eq_true rfl) ?_
  intro p e s m below meth c A ls R args H locs hR hx hb hr hlk hml hown hB hK hN hP hD hA hS hl
  have hl : lv_has ls 3 [(0, .ref (a 30))] := hl
  unfold f_R_giveRow at h
  refine lv_aload_n hx hb d_R_giveRow_0 rfl (lv_at hl 0 rfl) ?_
  refine Xg_30_3 hx hb hB hown (hB _ m_367) hK hP d_R_giveRow_1 ?_
  obtain ⟨r1, s2, hr1, h⟩ := bd_some h
  refine go_VI (rest := []) ⟨hx, hb, hml, hown, hB⟩ nwX_ok (c_A_isFull l D ca g a tl N σ s2 r1 hr1) (cwx_V hB m_778 kw_A_isFull ⟨by rw [hR]; decide, by rw [hR]; decide⟩ rfl rfl) (va_recv hK hP (ci := 2) (q0 := 26) rfl rfl) hN hK hP hD hS hA rfl hl.1 rfl (Nat.le_of_ble_eq_true rfl) d_R_giveRow_4 ⟨by rw [hR]; exact Nat.le_of_ble_eq_true rfl, by rw [hR]; exact Nat.le_of_ble_eq_true rfl⟩ (fun H locs hP hD hS => ?_)
  refine lv_if_eq (tgt := 13) hx hb d_R_giveRow_7 (by decide) (fun hc => ?_) (fun hc => ?_)
  · replace h := it_t h hc
    refine lv_aload_n hx hb d_R_giveRow_13 rfl (lv_at hl 0 rfl) ?_
    refine Xg_30_3 hx hb hB hown (hB _ m_367) hK hP d_R_giveRow_14 ?_
    obtain ⟨r3, s4, hr3, h⟩ := bd_some h
    cases r3
    refine go_VV (rest := []) ⟨hx, hb, hml, hown, hB⟩ nwX_ok (c_A_startRow l D ca g a tl N s2 s4 hr3) (cwx_V hB m_782 kw_A_startRow ⟨by rw [hR]; decide, by rw [hR]; decide⟩ rfl rfl) (va_recv hK hP (ci := 2) (q0 := 26) rfl rfl) hN hK hP hD hS hA rfl hl.1 rfl (Nat.le_of_ble_eq_true rfl) d_R_giveRow_17 ⟨by rw [hR]; exact Nat.le_of_ble_eq_true rfl, by rw [hR]; exact Nat.le_of_ble_eq_true rfl⟩ (fun H locs hP hD hS => ?_)
    refine lv_iconst (v := (0 : Int32)) hx hb d_R_giveRow_20 (by decide) ?_
    have L22 : ∀ (n : Nat) (σ : St) (x1 : Int32) (H : Heap) (locs : List Loc) (ls : Array Slot), va_P D vCl (wX g ca a σ ++ tl) H → va_D A (wX g ca a σ ++ tl) → va_S A s.heap H locs → lv_has ls 3 [(0, .ref (a 30)), (1, .int x1)] → f_R_giveRow_22 N g n σ x1 = some (r, σ') → W p l e R s m args below meth c H locs 0 0 (MQ below (qb_QI D vCl (tyX ca) (wX g ca a σ' ++ tl) A r) args s 0 0 A) (F0 m 22 ls []) := by
      intro n
      induction n with
      | zero => intro σ x1 H locs ls hP hD hS hl h; cases h
      | succ n ih22 =>
          intro σ x1 H locs ls hP hD hS hl h
          obtain ⟨K22, eK22⟩ : ∃ K, K = f_R_giveRow_22 N g n := ⟨_, rfl⟩
          rw [← eK22] at ih22
          replace h : f_R_giveRow_22_b N g K22 σ x1 = some (r, σ') := by rw [eK22]; exact h
          unfold f_R_giveRow_22_b at h
          refine lv_iload_n hx hb d_R_giveRow_22 rfl (lv_at hl 1 rfl) ?_
          refine lv_aload_n hx hb d_R_giveRow_23 rfl (lv_at hl 0 rfl) ?_
          refine Xg_30_2 hx hb hB hown (hB _ m_366) hK hP d_R_giveRow_24 ?_
          refine Xg_18_8 hx hb hB hown (hB _ m_226) hK hP d_R_giveRow_27 ?_
          refine lv_icmp_ge (tgt := 79) hx hb d_R_giveRow_30 (by decide) (fun hc => ?_) (fun hc => ?_)
          · replace h := it_t h hc
            refine lv_aload_n hx hb d_R_giveRow_79 rfl (lv_at hl 0 rfl) ?_
            refine Xg_30_3 hx hb hB hown (hB _ m_367) hK hP d_R_giveRow_80 ?_
            obtain ⟨r5, s6, hr5, h⟩ := bd_some h
            cases r5
            refine go_VV (rest := []) ⟨hx, hb, hml, hown, hB⟩ nwX_ok (c_A_endRow l D ca g a tl N σ s6 hr5) (cwx_V hB m_790 kw_A_endRow ⟨by rw [hR]; decide, by rw [hR]; decide⟩ rfl rfl) (va_recv hK hP (ci := 2) (q0 := 26) rfl rfl) hN hK hP hD hS hA rfl hl.1 rfl (Nat.le_of_ble_eq_true rfl) d_R_giveRow_83 ⟨by rw [hR]; exact Nat.le_of_ble_eq_true rfl, by rw [hR]; exact Nat.le_of_ble_eq_true rfl⟩ (fun H locs hP hD hS => ?_)
            refine lv_iconst (v := (0 : Int32)) hx hb d_R_giveRow_86 (by decide) ?_
            exact rf_I (w := (fun z => wX g ca a z ++ tl)) h hx hb hr hlk hK hP hD hS d_R_giveRow_87
          · replace h := it_f h hc
            refine lv_aload_n hx hb d_R_giveRow_33 rfl (lv_at hl 0 rfl) ?_
            refine Xg_30_5 hx hb hB hown (hB _ m_369) hK hP d_R_giveRow_34 ?_
            refine lv_aload_n hx hb d_R_giveRow_37 rfl (lv_at hl 0 rfl) ?_
            refine Xg_30_2 hx hb hB hown (hB _ m_366) hK hP d_R_giveRow_38 ?_
            refine Xg_18_9 hx hb hB hown (hB _ m_231) hK hP d_R_giveRow_41 ?_
            refine lv_iload_n hx hb d_R_giveRow_44 rfl (lv_at hl 1 rfl) ?_
            obtain ⟨hi, h⟩ := ckb_some h
            refine Xa_23 hx hb hK hP hi d_R_giveRow_45 ?_
            refine lv_iconst (v := (0 : Int32)) hx hb d_R_giveRow_46 (by decide) ?_
            obtain ⟨r7, s8, hr7, h⟩ := bd_some h
            refine go_NI (rest := []) ⟨hx, hb, hml, hown, hB⟩ nwX_ok (c_V_value l D ca g a tl N 130 σ s8 (ga σ 17 (x1).toNatClampNeg) (0 : Int32) r7 hr7) (cwx_N hB hN (List.mem_of_getElem? (i := 0) rfl) kw_V_value ⟨by rw [hR]; decide, by rw [hR]; decide⟩ rfl rfl) (va_recv hK hP (ci := 4) (q0 := 33) rfl rfl) hN hK hP hD hS hA rfl hl.1 rfl (Nat.le_of_ble_eq_true rfl) d_R_giveRow_47 ⟨by rw [hR]; exact Nat.le_of_ble_eq_true rfl, by rw [hR]; exact Nat.le_of_ble_eq_true rfl⟩ (fun H locs hP hD hS => ?_)
            refine lv_istore_n (lv' := [(2, .int r7), (0, .ref (a 30)), (1, .int x1)]) hx hb d_R_giveRow_50 rfl hl (by decide) rfl (fun ls hl => ?_)
            refine lv_iload_n hx hb d_R_giveRow_51 rfl (lv_at hl 0 rfl) ?_
            refine lv_if_ge (tgt := 57) hx hb d_R_giveRow_52 (by decide) (fun hc => ?_) (fun hc => ?_)
            · replace h := it_t h hc
              refine lv_aload_n hx hb d_R_giveRow_57 rfl (lv_at hl 1 rfl) ?_
              refine Xg_30_3 hx hb hB hown (hB _ m_367) hK hP d_R_giveRow_58 ?_
              refine lv_iload_n hx hb d_R_giveRow_61 rfl (lv_at hl 2 rfl) ?_
              refine lv_iload_n hx hb d_R_giveRow_62 rfl (lv_at hl 0 rfl) ?_
              refine lv_aload_n hx hb d_R_giveRow_63 rfl (lv_at hl 1 rfl) ?_
              refine Xg_30_5 hx hb hB hown (hB _ m_369) hK hP d_R_giveRow_64 ?_
              refine Xg_33_5 hx hb hB hown (hB _ m_347) hK hP d_R_giveRow_67 ?_
              obtain ⟨r9, s10, hr9, h⟩ := bd_some h
              cases r9
              refine go_VV (rest := []) ⟨hx, hb, hml, hown, hB⟩ nwX_ok (c_A_setItem l D ca g a tl N s8 s10 x1 r7 (gl s8 0) hr9) (cwx_V hB m_786 kw_A_setItem ⟨by rw [hR]; decide, by rw [hR]; decide⟩ rfl rfl) (va_recv hK hP (ci := 2) (q0 := 26) rfl rfl) hN hK hP hD hS hA rfl hl.1 rfl (Nat.le_of_ble_eq_true rfl) d_R_giveRow_70 ⟨by rw [hR]; exact Nat.le_of_ble_eq_true rfl, by rw [hR]; exact Nat.le_of_ble_eq_true rfl⟩ (fun H locs hP hD hS => ?_)
              refine lv_iinc (v := (x1 + 1)) (lv' := [(1, .int (x1 + 1)), (2, .int r7), (0, .ref (a 30))]) hx hb d_R_giveRow_73 hl (k := 2) rfl rfl (by decide) rfl (fun ls hl => ?_)
              refine lv_goto (tgt := 22) hx hb d_R_giveRow_76 (by decide) ?_
              exact ih22 s10 (x1 + 1) H locs ls hP hD hS (lv_sub hl [2, 0] rfl) h
            · replace h := it_f h hc
              refine lv_iload_n hx hb d_R_giveRow_55 rfl (lv_at hl 0 rfl) ?_
              exact rf_I (w := (fun z => wX g ca a z ++ tl)) h hx hb hr hlk hK hP hD hS d_R_giveRow_56
    refine lv_istore_n (lv' := [(1, .int (0 : Int32)), (0, .ref (a 30))]) hx hb d_R_giveRow_21 rfl hl (by decide) rfl (fun ls hl => ?_)
    exact L22 N s4 (0 : Int32) H locs ls hP hD hS (lv_sub hl [1, 0] rfl) h
  · replace h := it_f h hc
    refine lv_bipush (v := (-15 : Int32)) hx hb d_R_giveRow_10 (by decide) ?_
    exact rf_I (w := (fun z => wX g ca a z ++ tl)) h hx hb hr hlk hK hP hD hS d_R_giveRow_12
set_option maxRecDepth 100000 in
set_option maxHeartbeats 4000000 in
theorem c_R_giveGroups (l : Launch) (D : va_G) (ca : Nat → ClassId) (g : Bool) (a : Nat → Nat) (tl : va_W) (N : Nat) (σ σ' : St) (r : Int32) (h : f_R_giveGroups N g σ = some (r, σ')) : CtI l y_R_giveGroups ws_R_giveGroups rm_R_giveGroups 0 0 D vCl (tyX ca) nwX [.ref (a 30)] (wX g ca a σ ++ tl) (wX g ca a σ' ++ tl) r := by
  refine en_I (ws' := BIG) (by decide +kernel) rfl (Nat.le_of_ble_eq_true rfl) ?_
  intro p e s m below meth c A ls R args H locs hR hx hb hr hlk hml hown hB hK hN hP hD hA hS hl
  have hl : lv_has ls 5 [(0, .ref (a 30))] := hl
  unfold f_R_giveGroups at h
  refine lv_aload_n hx hb d_R_giveGroups_0 rfl (lv_at hl 0 rfl) ?_
  refine Xg_30_5 hx hb hB hown (hB _ m_369) hK hP d_R_giveGroups_1 ?_
  cases g with
  | true =>
    replace h := it_t h rfl
    refine Xg_33_4t hx hb hB hown (hB _ m_344) hK hP d_R_giveGroups_4 ?_
    refine lv_astore_n (lv' := [(1, .ref (a 35)), (0, .ref (a 30))]) hx hb d_R_giveGroups_7 rfl hl (by decide) rfl (fun ls hl => ?_)
    refine lv_aload_n hx hb d_R_giveGroups_8 rfl (lv_at hl 1 rfl) ?_
    refine Xg_30_6 hx hb hB hown (hB _ m_370) hK hP d_R_giveGroups_9 ?_
    refine lv_if_eq (tgt := 19) hx hb d_R_giveGroups_12 (by decide) (fun hc => ?_) (fun hc => ?_)
    · replace h := it_t h hc
      refine lv_iconst (v := (0 : Int32)) hx hb d_R_giveGroups_19 (by decide) ?_
      exact rf_I (w := (fun z => wX true ca a z ++ tl)) h hx hb hr hlk hK hP hD hS d_R_giveGroups_20
    · replace h := it_f h hc
      refine lv_aload_n hx hb d_R_giveGroups_15 rfl (lv_at hl 0 rfl) ?_
      refine lv_ifnonnull (tgt := 21) hx hb d_R_giveGroups_16 (by decide) ?_
      refine lv_iconst (v := (0 : Int32)) hx hb d_R_giveGroups_21 (by decide) ?_
      have L23 : ∀ (n : Nat) (σ : St) (x2 : Int32) (H : Heap) (locs : List Loc) (ls : Array Slot), va_P D vCl (wX true ca a σ ++ tl) H → va_D A (wX true ca a σ ++ tl) → va_S A s.heap H locs → lv_has ls 5 [(0, .ref (a 30)), (1, .ref (a 35)), (2, .int x2)] → f_R_giveGroups_23 N true n σ x2 = some (r, σ') → W p l e R s m args below meth c H locs 0 0 (MQ below (qb_QI D vCl (tyX ca) (wX true ca a σ' ++ tl) A r) args s 0 0 A) (F0 m 23 ls []) := by
        intro n
        induction n with
        | zero => intro σ x2 H locs ls hP hD hS hl h; cases h
        | succ n ih23 =>
            intro σ x2 H locs ls hP hD hS hl h
            obtain ⟨K23, eK23⟩ : ∃ K, K = f_R_giveGroups_23 N true n := ⟨_, rfl⟩
            rw [← eK23] at ih23
            replace h : f_R_giveGroups_23_b N true K23 σ x2 = some (r, σ') := by rw [eK23]; exact h
            unfold f_R_giveGroups_23_b at h
            refine lv_iload_n hx hb d_R_giveGroups_23 rfl (lv_at hl 2 rfl) ?_
            refine lv_aload_n hx hb d_R_giveGroups_24 rfl (lv_at hl 1 rfl) ?_
            refine Xg_35_1 hx hb hB hown (hB _ m_618) hK hP d_R_giveGroups_25 ?_
            refine lv_icmp_ge (tgt := 111) hx hb d_R_giveGroups_28 (by decide) (fun hc => ?_) (fun hc => ?_)
            · replace h := it_t h hc
              refine lv_iconst (v := (0 : Int32)) hx hb d_R_giveGroups_111 (by decide) ?_
              exact rf_I (w := (fun z => wX true ca a z ++ tl)) h hx hb hr hlk hK hP hD hS d_R_giveGroups_112
            · replace h := it_f h hc
              refine lv_aload_n hx hb d_R_giveGroups_31 rfl (lv_at hl 1 rfl) ?_
              refine lv_iload_n hx hb d_R_giveGroups_32 rfl (lv_at hl 2 rfl) ?_
              refine lv_aload_n hx hb d_R_giveGroups_33 rfl (lv_at hl 0 rfl) ?_
              refine Xg_30_5 hx hb hB hown (hB _ m_369) hK hP d_R_giveGroups_34 ?_
              refine Xg_33_3 hx hb hB hown (hB _ m_343) hK hP d_R_giveGroups_37 ?_
              obtain ⟨r1, s2, hr1, h⟩ := bd_some h
              cases r1
              refine go_VV (rest := []) ⟨hx, hb, hml, hown, hB⟩ nwX_ok (c_G_enter l D ca a tl N σ s2 x2 hr1) (cwx_V hB m_799 kw_G_enter ⟨by rw [hR]; decide, by rw [hR]; decide⟩ rfl rfl) (va_recv hK hP (ci := 6) (q0 := 35) rfl rfl) hN hK hP hD hS hA rfl hl.1 rfl (Nat.le_of_ble_eq_true rfl) d_R_giveGroups_40 ⟨by rw [hR]; exact Nat.le_of_ble_eq_true rfl, by rw [hR]; exact Nat.le_of_ble_eq_true rfl⟩ (fun H locs hP hD hS => ?_)
              refine lv_aload_n hx hb d_R_giveGroups_43 rfl (lv_at hl 0 rfl) ?_
              refine Xg_30_2 hx hb hB hown (hB _ m_366) hK hP d_R_giveGroups_44 ?_
              refine Xg_18_5 hx hb hB hown (hB _ m_215) hK hP d_R_giveGroups_47 ?_
              refine lv_iconst (v := (-1 : Int32)) hx hb d_R_giveGroups_50 (by decide) ?_
              have L73 : ∀ (σ : St) (x2 : Int32) (t0 : Int32) (H : Heap) (locs : List Loc) (ls : Array Slot), va_P D vCl (wX true ca a σ ++ tl) H → va_D A (wX true ca a σ ++ tl) → va_S A s.heap H locs → lv_has ls 5 [(0, .ref (a 30)), (1, .ref (a 35)), (2, .int x2)] → f_R_giveGroups_73 N true K23 σ x2 t0 = some (r, σ') → W p l e R s m args below meth c H locs 0 0 (MQ below (qb_QI D vCl (tyX ca) (wX true ca a σ' ++ tl) A r) args s 0 0 A) (F0 m 73 ls [.int t0]) := by
                intro σ x2 t0 H locs ls hP hD hS hl h
                unfold f_R_giveGroups_73 at h
                refine lv_istore_n (lv' := [(3, .int t0), (0, .ref (a 30)), (1, .ref (a 35)), (2, .int x2)]) hx hb d_R_giveGroups_73 rfl hl (by decide) rfl (fun ls hl => ?_)
                refine lv_iload_n hx hb d_R_giveGroups_74 rfl (lv_at hl 0 rfl) ?_
                refine lv_iconst (v := (1 : Int32)) hx hb d_R_giveGroups_75 (by decide) ?_
                have L95 : ∀ (σ : St) (x2 : Int32) (t0 : Int32) (H : Heap) (locs : List Loc) (ls : Array Slot), va_P D vCl (wX true ca a σ ++ tl) H → va_D A (wX true ca a σ ++ tl) → va_S A s.heap H locs → lv_has ls 5 [(0, .ref (a 30)), (1, .ref (a 35)), (2, .int x2)] → f_R_giveGroups_95 N true K23 σ x2 t0 = some (r, σ') → W p l e R s m args below meth c H locs 0 0 (MQ below (qb_QI D vCl (tyX ca) (wX true ca a σ' ++ tl) A r) args s 0 0 A) (F0 m 95 ls [.int t0]) := by
                  intro σ x2 t0 H locs ls hP hD hS hl h
                  unfold f_R_giveGroups_95 at h
                  refine lv_istore (lv' := [(4, .int t0), (0, .ref (a 30)), (1, .ref (a 35)), (2, .int x2)]) hx hb d_R_giveGroups_95 hl (by decide) rfl (fun ls hl => ?_)
                  refine lv_iload hx hb d_R_giveGroups_97 (lv_at hl 0 rfl) ?_
                  refine lv_if_eq (tgt := 105) hx hb d_R_giveGroups_99 (by decide) (fun hc => ?_) (fun hc => ?_)
                  · replace h := it_t h hc
                    refine lv_iinc (v := (x2 + 1)) (lv' := [(2, .int (x2 + 1)), (4, .int t0), (0, .ref (a 30)), (1, .ref (a 35))]) hx hb d_R_giveGroups_105 hl (k := 3) rfl rfl (by decide) rfl (fun ls hl => ?_)
                    refine lv_goto (tgt := 23) hx hb d_R_giveGroups_108 (by decide) ?_
                    exact ih23 σ (x2 + 1) H locs ls hP hD hS (lv_sub hl [2, 3, 0] rfl) h
                  · replace h := it_f h hc
                    refine lv_iload hx hb d_R_giveGroups_102 (lv_at hl 0 rfl) ?_
                    exact rf_I (w := (fun z => wX true ca a z ++ tl)) h hx hb hr hlk hK hP hD hS d_R_giveGroups_104
                refine lv_icmp_ne (tgt := 86) hx hb d_R_giveGroups_76 (by decide) (fun hc => ?_) (fun hc => ?_)
                · replace h := it_f h hc
                  refine lv_iload_n hx hb d_R_giveGroups_86 rfl (lv_at hl 0 rfl) ?_
                  refine lv_if_ge (tgt := 94) hx hb d_R_giveGroups_87 (by decide) (fun hc => ?_) (fun hc => ?_)
                  · replace h := it_t h hc
                    refine lv_iconst (v := (0 : Int32)) hx hb d_R_giveGroups_94 (by decide) ?_
                    exact L95 σ x2 (0 : Int32) H locs ls hP hD hS (lv_sub hl [1, 2, 3] rfl) h
                  · replace h := it_f h hc
                    refine lv_iload_n hx hb d_R_giveGroups_90 rfl (lv_at hl 0 rfl) ?_
                    refine lv_goto (tgt := 95) hx hb d_R_giveGroups_91 (by decide) ?_
                    exact L95 σ x2 t0 H locs ls hP hD hS (lv_sub hl [1, 2, 3] rfl) h
                · replace h := it_t h hc
                  refine lv_aload_n hx hb d_R_giveGroups_79 rfl (lv_at hl 1 rfl) ?_
                  obtain ⟨r3, s4, hr3, h⟩ := bd_some h
                  refine go_VI (rest := []) ⟨hx, hb, hml, hown, hB⟩ nwX_ok (c_R_giveRow l D ca true a tl N σ s4 r3 hr3) (cwx_V hB m_774 kw_R_giveRow ⟨by rw [hR]; decide, by rw [hR]; decide⟩ rfl rfl) (va_recv hK hP (ci := 8) (q0 := 30) rfl rfl) hN hK hP hD hS hA rfl hl.1 rfl (Nat.le_of_ble_eq_true rfl) d_R_giveGroups_80 ⟨by rw [hR]; exact Nat.le_of_ble_eq_true rfl, by rw [hR]; exact Nat.le_of_ble_eq_true rfl⟩ (fun H locs hP hD hS => ?_)
                  refine lv_goto (tgt := 95) hx hb d_R_giveGroups_83 (by decide) ?_
                  exact L95 s4 x2 r3 H locs ls hP hD hS (lv_sub hl [1, 2, 3] rfl) h
              refine lv_icmp_ne (tgt := 58) hx hb d_R_giveGroups_51 (by decide) (fun hc => ?_) (fun hc => ?_)
              · replace h := it_f h hc
                refine lv_aload_n hx hb d_R_giveGroups_58 rfl (lv_at hl 0 rfl) ?_
                refine Xg_30_5 hx hb hB hown (hB _ m_369) hK hP d_R_giveGroups_59 ?_
                refine lv_aload_n hx hb d_R_giveGroups_62 rfl (lv_at hl 0 rfl) ?_
                refine Xg_30_2 hx hb hB hown (hB _ m_366) hK hP d_R_giveGroups_63 ?_
                refine Xg_18_5 hx hb hB hown (hB _ m_215) hK hP d_R_giveGroups_66 ?_
                refine lv_iconst (v := (0 : Int32)) hx hb d_R_giveGroups_69 (by decide) ?_
                obtain ⟨r5, s6, hr5, h⟩ := bd_some h
                refine go_NI (rest := []) ⟨hx, hb, hml, hown, hB⟩ nwX_ok (c_V_truth l D ca true a tl N 130 s2 s6 (gi s2 5) (0 : Int32) r5 hr5) (cwx_N hB hN (List.mem_of_getElem? (i := 1) rfl) kw_V_truth ⟨by rw [hR]; decide, by rw [hR]; decide⟩ rfl rfl) (va_recv hK hP (ci := 4) (q0 := 33) rfl rfl) hN hK hP hD hS hA rfl hl.1 rfl (Nat.le_of_ble_eq_true rfl) d_R_giveGroups_70 ⟨by rw [hR]; exact Nat.le_of_ble_eq_true rfl, by rw [hR]; exact Nat.le_of_ble_eq_true rfl⟩ (fun H locs hP hD hS => ?_)
                exact L73 s6 x2 r5 H locs ls hP hD hS (lv_sub hl [0, 1, 2] rfl) h
              · replace h := it_t h hc
                refine lv_iconst (v := (1 : Int32)) hx hb d_R_giveGroups_54 (by decide) ?_
                refine lv_goto (tgt := 73) hx hb d_R_giveGroups_55 (by decide) ?_
                exact L73 s2 x2 (1 : Int32) H locs ls hP hD hS (lv_sub hl [0, 1, 2] rfl) h
      refine lv_istore_n (lv' := [(2, .int (0 : Int32)), (1, .ref (a 35)), (0, .ref (a 30))]) hx hb d_R_giveGroups_22 rfl hl (by decide) rfl (fun ls hl => ?_)
      exact L23 N σ (0 : Int32) H locs ls hP hD hS (lv_sub hl [2, 1, 0] rfl) h
  | false =>
    replace h := it_f h (by decide)
    refine Xg_33_4f hx hb hB hown (hB _ m_344) hK hP d_R_giveGroups_4 ?_
    refine lv_astore_nN (lv' := [(1, .null), (0, .ref (a 30))]) hx hb d_R_giveGroups_7 rfl hl (by decide) rfl (fun ls hl => ?_)
    refine lv_aload_n hx hb d_R_giveGroups_8 rfl (lv_at hl 1 rfl) ?_
    refine Xg_30_6 hx hb hB hown (hB _ m_370) hK hP d_R_giveGroups_9 ?_
    refine lv_if_eq (tgt := 19) hx hb d_R_giveGroups_12 (by decide) (fun hc => ?_) (fun hc => ?_)
    · replace h := it_t h hc
      refine lv_iconst (v := (0 : Int32)) hx hb d_R_giveGroups_19 (by decide) ?_
      exact rf_I (w := (fun z => wX false ca a z ++ tl)) h hx hb hr hlk hK hP hD hS d_R_giveGroups_20
    · replace h := it_f h hc
      refine lv_aload_nN hx hb d_R_giveGroups_15 rfl (lv_at hl 0 rfl) ?_
      refine lv_ifnonnullN hx hb d_R_giveGroups_16 ?_
      refine lv_iconst (v := (0 : Int32)) hx hb d_R_giveGroups_19 (by decide) ?_
      exact rf_I (w := (fun z => wX false ca a z ++ tl)) h hx hb hr hlk hK hP hD hS d_R_giveGroups_20
set_option maxRecDepth 100000 in
set_option maxHeartbeats 4000000 in
theorem c_G_isFull (l : Launch) (D : va_G) (ca : Nat → ClassId) (a : Nat → Nat) (tl : va_W) (N : Nat) (σ σ' : St) (r : Int32) (h : f_G_isFull N σ = some (r, σ')) : CtI l y_G_isFull ws_G_isFull rm_G_isFull 0 0 D vCl (tyX ca) nwX [.ref (a 35)] (wX true ca a σ ++ tl) (wX true ca a σ' ++ tl) r := by
  refine en_Z (ws' := BIG) (by decide +kernel) rfl (Nat.le_of_ble_eq_true rfl) ?_
  intro p e s m below meth c A ls R args H locs hR hx hb hr hlk hml hown hB hK hN hP hD hA hS hl
  have hl : lv_has ls 1 [(0, .ref (a 35))] := hl
  unfold f_G_isFull at h
  refine lv_aload_n hx hb d_G_isFull_0 rfl (lv_at hl 0 rfl) ?_
  refine Xg_35_2 hx hb hB hown (hB _ m_619) hK hP d_G_isFull_1 ?_
  refine lv_sipush (v := (512 : Int32)) hx hb d_G_isFull_4 (by decide) ?_
  refine lv_icmp_ge (tgt := 20) hx hb d_G_isFull_7 (by decide) (fun hc => ?_) (fun hc => ?_)
  · replace h := it_t h hc
    refine lv_iconst (v := (1 : Int32)) hx hb d_G_isFull_20 (by decide) ?_
    refine lv_goto (tgt := 25) hx hb d_G_isFull_21 (by decide) ?_
    exact rf_Z (w := (fun z => wX true ca a z ++ tl)) h hx hb hr hlk hK hP hD hS rfl d_G_isFull_25
  · replace h := it_f h hc
    refine lv_aload_n hx hb d_G_isFull_10 rfl (lv_at hl 0 rfl) ?_
    refine Xg_35_1 hx hb hB hown (hB _ m_617) hK hP d_G_isFull_11 ?_
    refine lv_sipush (v := (512 : Int32)) hx hb d_G_isFull_14 (by decide) ?_
    refine lv_icmp_lt (tgt := 24) hx hb d_G_isFull_17 (by decide) (fun hc => ?_) (fun hc => ?_)
    · replace h := it_t h hc
      refine lv_iconst (v := (0 : Int32)) hx hb d_G_isFull_24 (by decide) ?_
      exact rf_Z (w := (fun z => wX true ca a z ++ tl)) h hx hb hr hlk hK hP hD hS rfl d_G_isFull_25
    · replace h := it_f h hc
      refine lv_iconst (v := (1 : Int32)) hx hb d_G_isFull_20 (by decide) ?_
      refine lv_goto (tgt := 25) hx hb d_G_isFull_21 (by decide) ?_
      exact rf_Z (w := (fun z => wX true ca a z ++ tl)) h hx hb hr hlk hK hP hD hS rfl d_G_isFull_25
set_option maxRecDepth 100000 in
set_option maxHeartbeats 4000000 in
theorem c_G_pack (l : Launch) (D : va_G) (ca : Nat → ClassId) (a : Nat → Nat) (tl : va_W) (N : Nat) (σ σ' : St) (r : Int32) (h : f_G_pack N σ = some (r, σ')) : CtI l y_G_pack ws_G_pack rm_G_pack 0 0 D vCl (tyX ca) nwX [.ref (a 34)] (wX true ca a σ ++ tl) (wX true ca a σ' ++ tl) r := by
  refine en_I (ws' := BIG) (by decide +kernel) rfl (Nat.le_of_ble_eq_true rfl) ?_
  intro p e s m below meth c A ls R args H locs hR hx hb hr hlk hml hown hB hK hN hP hD hA hS hl
  have hl : lv_has ls 3 [(0, .ref (a 34))] := hl
  unfold f_G_pack at h
  refine lv_iconst (v := (0 : Int32)) hx hb d_G_pack_0 (by decide) ?_
  refine lv_istore_n (lv' := [(1, .int (0 : Int32)), (0, .ref (a 34))]) hx hb d_G_pack_1 rfl hl (by decide) rfl (fun ls hl => ?_)
  refine lv_iconst (v := (0 : Int32)) hx hb d_G_pack_2 (by decide) ?_
  have L4 : ∀ (n : Nat) (σ : St) (x1 : Int32) (x2 : Int32) (H : Heap) (locs : List Loc) (ls : Array Slot), va_P D vCl (wX true ca a σ ++ tl) H → va_D A (wX true ca a σ ++ tl) → va_S A s.heap H locs → lv_has ls 3 [(0, .ref (a 34)), (1, .int x1), (2, .int x2)] → f_G_pack_4 N n σ x1 x2 = some (r, σ') → W p l e R s m args below meth c H locs 0 0 (MQ below (qb_QI D vCl (tyX ca) (wX true ca a σ' ++ tl) A r) args s 0 0 A) (F0 m 4 ls []) := by
    intro n
    induction n with
    | zero => intro σ x1 x2 H locs ls hP hD hS hl h; cases h
    | succ n ih4 =>
        intro σ x1 x2 H locs ls hP hD hS hl h
        obtain ⟨K4, eK4⟩ : ∃ K, K = f_G_pack_4 N n := ⟨_, rfl⟩
        rw [← eK4] at ih4
        replace h : f_G_pack_4_b N K4 σ x1 x2 = some (r, σ') := by rw [eK4]; exact h
        unfold f_G_pack_4_b at h
        refine lv_iload_n hx hb d_G_pack_4 rfl (lv_at hl 2 rfl) ?_
        refine lv_aload_n hx hb d_G_pack_5 rfl (lv_at hl 0 rfl) ?_
        refine Xn_34 hx hb hK hP d_G_pack_6 ?_
        refine lv_icmp_ge (tgt := 28) hx hb d_G_pack_7 (by decide) (fun hc => ?_) (fun hc => ?_)
        · replace h := it_t h hc
          refine lv_iload_n hx hb d_G_pack_28 rfl (lv_at hl 1 rfl) ?_
          exact rf_I (w := (fun z => wX true ca a z ++ tl)) h hx hb hr hlk hK hP hD hS d_G_pack_29
        · replace h := it_f h hc
          refine lv_iload_n hx hb d_G_pack_10 rfl (lv_at hl 1 rfl) ?_
          refine lv_aload_n hx hb d_G_pack_11 rfl (lv_at hl 0 rfl) ?_
          refine lv_iload_n hx hb d_G_pack_12 rfl (lv_at hl 2 rfl) ?_
          obtain ⟨hi, h⟩ := ckb_some h
          refine Xa_34 hx hb hK hP hi d_G_pack_13 ?_
          refine lv_iconst (v := (1 : Int32)) hx hb d_G_pack_14 (by decide) ?_
          refine lv_iadd hx hb d_G_pack_15 ?_
          refine lv_iconst (v := (4 : Int32)) hx hb d_G_pack_16 (by decide) ?_
          refine lv_iload_n hx hb d_G_pack_17 rfl (lv_at hl 2 rfl) ?_
          refine lv_imul hx hb d_G_pack_18 ?_
          refine lv_ishl hx hb d_G_pack_19 ?_
          refine lv_ior hx hb d_G_pack_20 ?_
          refine lv_istore_n (lv' := [(1, .int (x1 ||| (((ga σ 23 (x2).toNatClampNeg) + (1 : Int32)) <<< (((4 : Int32) * x2) &&& 31)))), (0, .ref (a 34)), (2, .int x2)]) hx hb d_G_pack_21 rfl hl (by decide) rfl (fun ls hl => ?_)
          refine lv_iinc (v := (x2 + 1)) (lv' := [(2, .int (x2 + 1)), (1, .int (x1 ||| (((ga σ 23 (x2).toNatClampNeg) + (1 : Int32)) <<< (((4 : Int32) * x2) &&& 31)))), (0, .ref (a 34))]) hx hb d_G_pack_22 hl (k := 2) rfl rfl (by decide) rfl (fun ls hl => ?_)
          refine lv_goto (tgt := 4) hx hb d_G_pack_25 (by decide) ?_
          exact ih4 σ (x1 ||| (((ga σ 23 (x2).toNatClampNeg) + (1 : Int32)) <<< (((4 : Int32) * x2) &&& 31))) (x2 + 1) H locs ls hP hD hS (lv_sub hl [2, 1, 0] rfl) h
  refine lv_istore_n (lv' := [(2, .int (0 : Int32)), (1, .int (0 : Int32)), (0, .ref (a 34))]) hx hb d_G_pack_3 rfl hl (by decide) rfl (fun ls hl => ?_)
  exact L4 N σ (0 : Int32) (0 : Int32) H locs ls hP hD hS (lv_sub hl [2, 1, 0] rfl) h
set_option maxRecDepth 100000 in
set_option maxHeartbeats 4000000 in
theorem c_G_startRow (l : Launch) (D : va_G) (ca : Nat → ClassId) (a : Nat → Nat) (tl : va_W) (N : Nat) (σ σ' : St) (h : f_G_startRow N σ = some ((), σ')) : CtV l y_G_startRow ws_G_startRow rm_G_startRow 0 0 D vCl (tyX ca) nwX [.ref (a 35), .ref (a 34)] (wX true ca a σ ++ tl) (wX true ca a σ' ++ tl) := by
  refine en_V (ws' := BIG) (by decide +kernel) rfl (Nat.le_of_ble_eq_true rfl) ?_
  intro p e s m below meth c A ls R args H locs hR hx hb hr hlk hml hown hB hK hN hP hD hA hS hl
  have hl : lv_has ls 2 [(0, .ref (a 35)), (1, .ref (a 34))] := hl
  unfold f_G_startRow at h
  refine lv_aload_n hx hb d_G_startRow_0 rfl (lv_at hl 0 rfl) ?_
  refine Xg_35_8 hx hb hB hown (hB _ m_625) hK hP d_G_startRow_1 ?_
  refine lv_aload_n hx hb d_G_startRow_4 rfl (lv_at hl 0 rfl) ?_
  refine Xg_35_2 hx hb hB hown (hB _ m_619) hK hP d_G_startRow_5 ?_
  refine lv_aload_n hx hb d_G_startRow_8 rfl (lv_at hl 1 rfl) ?_
  obtain ⟨r1, s2, hr1, h⟩ := bd_some h
  refine go_SI (rest := [.int (gi σ 19), .ref (a 41)]) ⟨hx, hb, hml, hown, hB⟩ nwX_ok (c_G_pack l D ca a tl N σ s2 r1 hr1) (cwx_S hB m_731 kw_G_pack ⟨by rw [hR]; decide, by rw [hR]; decide⟩ rfl rfl) hN hK hP hD hS hA rfl hl.1 rfl (Nat.le_of_ble_eq_true rfl) d_G_startRow_9 ⟨by rw [hR]; exact Nat.le_of_ble_eq_true rfl, by rw [hR]; exact Nat.le_of_ble_eq_true rfl⟩ (fun H locs hP hD hS => ?_)
  obtain ⟨hi, h⟩ := ckb_some h
  obtain ⟨s3, es3, h⟩ := nm_some h
  refine Xs_41 es3 hx hb hK hP hD hS hi d_G_startRow_12 (fun H locs hP hD hS => ?_)
  refine lv_aload_n hx hb d_G_startRow_13 rfl (lv_at hl 0 rfl) ?_
  refine Xg_35_10 hx hb hB hown (hB _ m_627) hK hP d_G_startRow_14 ?_
  refine lv_aload_n hx hb d_G_startRow_17 rfl (lv_at hl 0 rfl) ?_
  refine Xg_35_2 hx hb hB hown (hB _ m_619) hK hP d_G_startRow_18 ?_
  refine lv_iconst (v := (0 : Int32)) hx hb d_G_startRow_21 (by decide) ?_
  obtain ⟨hi, h⟩ := ckb_some h
  obtain ⟨s4, es4, h⟩ := nm_some h
  refine Xs_43 es4 hx hb hK hP hD hS hi d_G_startRow_22 (fun H locs hP hD hS => ?_)
  refine lv_aload_n hx hb d_G_startRow_23 rfl (lv_at hl 0 rfl) ?_
  refine Xg_35_4 hx hb hB hown (hB _ m_621) hK hP d_G_startRow_24 ?_
  refine lv_aload_n hx hb d_G_startRow_27 rfl (lv_at hl 0 rfl) ?_
  refine Xg_35_1 hx hb hB hown (hB _ m_617) hK hP d_G_startRow_28 ?_
  refine lv_iconst (v := (0 : Int32)) hx hb d_G_startRow_31 (by decide) ?_
  obtain ⟨hi, h⟩ := ckb_some h
  obtain ⟨s5, es5, h⟩ := nm_some h
  refine Xs_37 es5 hx hb hK hP hD hS hi d_G_startRow_32 (fun H locs hP hD hS => ?_)
  exact rf_V (w := (fun z => wX true ca a z ++ tl)) h hx hb hr hlk hK hP hD hS d_G_startRow_33
set_option maxRecDepth 100000 in
set_option maxHeartbeats 4000000 in
theorem c_G_groupOfKeys (l : Launch) (D : va_G) (ca : Nat → ClassId) (a : Nat → Nat) (tl : va_W) (N : Nat) (σ σ' : St) (x1 : Int32) (r : Int32) (h : f_G_groupOfKeys N σ x1 = some (r, σ')) : CtI l y_G_groupOfKeys ws_G_groupOfKeys rm_G_groupOfKeys 0 0 D vCl (tyX ca) nwX [.ref (a 35), .int x1] (wX true ca a σ ++ tl) (wX true ca a σ' ++ tl) r := by
  refine en_I (ws' := BIG) (by decide +kernel) rfl (Nat.le_of_ble_eq_true rfl) ?_
  intro p e s m below meth c A ls R args H locs hR hx hb hr hlk hml hown hB hK hN hP hD hA hS hl
  have hl : lv_has ls 5 [(0, .ref (a 35)), (1, .int x1)] := hl
  unfold f_G_groupOfKeys at h
  refine lv_iconst (v := (0 : Int32)) hx hb d_G_groupOfKeys_0 (by decide) ?_
  have L2 : ∀ (n : Nat) (σ : St) (x1 : Int32) (x2 : Int32) (H : Heap) (locs : List Loc) (ls : Array Slot), va_P D vCl (wX true ca a σ ++ tl) H → va_D A (wX true ca a σ ++ tl) → va_S A s.heap H locs → lv_has ls 5 [(0, .ref (a 35)), (1, .int x1), (2, .int x2)] → f_G_groupOfKeys_2 N n σ x1 x2 = some (r, σ') → W p l e R s m args below meth c H locs 0 0 (MQ below (qb_QI D vCl (tyX ca) (wX true ca a σ' ++ tl) A r) args s 0 0 A) (F0 m 2 ls []) := by
    intro n
    induction n with
    | zero => intro σ x1 x2 H locs ls hP hD hS hl h; cases h
    | succ n ih2 =>
        intro σ x1 x2 H locs ls hP hD hS hl h
        obtain ⟨K2, eK2⟩ : ∃ K, K = f_G_groupOfKeys_2 N n := ⟨_, rfl⟩
        rw [← eK2] at ih2
        replace h : f_G_groupOfKeys_2_b N K2 σ x1 x2 = some (r, σ') := by rw [eK2]; exact h
        unfold f_G_groupOfKeys_2_b at h
        refine lv_iload_n hx hb d_G_groupOfKeys_2 rfl (lv_at hl 2 rfl) ?_
        refine lv_aload_n hx hb d_G_groupOfKeys_3 rfl (lv_at hl 0 rfl) ?_
        refine Xg_35_1 hx hb hB hown (hB _ m_617) hK hP d_G_groupOfKeys_4 ?_
        refine lv_icmp_ge (tgt := 100) hx hb d_G_groupOfKeys_7 (by decide) (fun hc => ?_) (fun hc => ?_)
        · replace h := it_t h hc
          refine lv_aload_n hx hb d_G_groupOfKeys_100 rfl (lv_at hl 0 rfl) ?_
          refine Xg_35_1 hx hb hB hown (hB _ m_617) hK hP d_G_groupOfKeys_101 ?_
          exact rf_I (w := (fun z => wX true ca a z ++ tl)) h hx hb hr hlk hK hP hD hS d_G_groupOfKeys_104
        · replace h := it_f h hc
          refine lv_aload_n hx hb d_G_groupOfKeys_10 rfl (lv_at hl 0 rfl) ?_
          refine Xg_35_4 hx hb hB hown (hB _ m_621) hK hP d_G_groupOfKeys_11 ?_
          refine lv_iload_n hx hb d_G_groupOfKeys_14 rfl (lv_at hl 2 rfl) ?_
          obtain ⟨hi, h⟩ := ckb_some h
          refine Xa_37 hx hb hK hP hi d_G_groupOfKeys_15 ?_
          refine lv_aload_n hx hb d_G_groupOfKeys_16 rfl (lv_at hl 0 rfl) ?_
          refine Xg_35_4 hx hb hB hown (hB _ m_621) hK hP d_G_groupOfKeys_17 ?_
          refine lv_aload_n hx hb d_G_groupOfKeys_20 rfl (lv_at hl 0 rfl) ?_
          refine Xg_35_1 hx hb hB hown (hB _ m_617) hK hP d_G_groupOfKeys_21 ?_
          obtain ⟨hi, h⟩ := ckb_some h
          refine Xa_37 hx hb hK hP hi d_G_groupOfKeys_24 ?_
          refine lv_icmp_ne (tgt := 32) hx hb d_G_groupOfKeys_25 (by decide) (fun hc => ?_) (fun hc => ?_)
          · replace h := it_f h hc
            refine lv_iconst (v := (0 : Int32)) hx hb d_G_groupOfKeys_32 (by decide) ?_
            refine lv_istore_n (lv' := [(3, .int (0 : Int32)), (0, .ref (a 35)), (1, .int x1), (2, .int x2)]) hx hb d_G_groupOfKeys_33 rfl hl (by decide) rfl (fun ls hl => ?_)
            refine lv_iconst (v := (0 : Int32)) hx hb d_G_groupOfKeys_34 (by decide) ?_
            have L37 : ∀ (n : Nat) (σ : St) (x1 : Int32) (x2 : Int32) (x3 : Int32) (x4 : Int32) (H : Heap) (locs : List Loc) (ls : Array Slot), va_P D vCl (wX true ca a σ ++ tl) H → va_D A (wX true ca a σ ++ tl) → va_S A s.heap H locs → lv_has ls 5 [(0, .ref (a 35)), (1, .int x1), (2, .int x2), (3, .int x3), (4, .int x4)] → f_G_groupOfKeys_37 N K2 n σ x1 x2 x3 x4 = some (r, σ') → W p l e R s m args below meth c H locs 0 0 (MQ below (qb_QI D vCl (tyX ca) (wX true ca a σ' ++ tl) A r) args s 0 0 A) (F0 m 37 ls []) := by
              intro n
              induction n with
              | zero => intro σ x1 x2 x3 x4 H locs ls hP hD hS hl h; cases h
              | succ n ih37 =>
                  intro σ x1 x2 x3 x4 H locs ls hP hD hS hl h
                  obtain ⟨K37, eK37⟩ : ∃ K, K = f_G_groupOfKeys_37 N K2 n := ⟨_, rfl⟩
                  rw [← eK37] at ih37
                  replace h : f_G_groupOfKeys_37_b N K2 K37 σ x1 x2 x3 x4 = some (r, σ') := by rw [eK37]; exact h
                  unfold f_G_groupOfKeys_37_b at h
                  refine lv_iload_n hx hb d_G_groupOfKeys_37 rfl (lv_at hl 3 rfl) ?_
                  have L88 : ∀ (σ : St) (x1 : Int32) (x2 : Int32) (x3 : Int32) (H : Heap) (locs : List Loc) (ls : Array Slot), va_P D vCl (wX true ca a σ ++ tl) H → va_D A (wX true ca a σ ++ tl) → va_S A s.heap H locs → lv_has ls 5 [(0, .ref (a 35)), (1, .int x1), (2, .int x2), (3, .int x3)] → f_G_groupOfKeys_88 N K2 σ x1 x2 x3 = some (r, σ') → W p l e R s m args below meth c H locs 0 0 (MQ below (qb_QI D vCl (tyX ca) (wX true ca a σ' ++ tl) A r) args s 0 0 A) (F0 m 88 ls []) := by
                    intro σ x1 x2 x3 H locs ls hP hD hS hl h
                    unfold f_G_groupOfKeys_88 at h
                    refine lv_iload_n hx hb d_G_groupOfKeys_88 rfl (lv_at hl 3 rfl) ?_
                    refine lv_if_eq (tgt := 94) hx hb d_G_groupOfKeys_89 (by decide) (fun hc => ?_) (fun hc => ?_)
                    · replace h := it_t h hc
                      refine lv_iinc (v := (x2 + 1)) (lv' := [(2, .int (x2 + 1)), (0, .ref (a 35)), (1, .int x1), (3, .int x3)]) hx hb d_G_groupOfKeys_94 hl (k := 2) rfl rfl (by decide) rfl (fun ls hl => ?_)
                      refine lv_goto (tgt := 2) hx hb d_G_groupOfKeys_97 (by decide) ?_
                      exact ih2 σ x1 (x2 + 1) H locs ls hP hD hS (lv_sub hl [1, 2, 0] rfl) h
                    · replace h := it_f h hc
                      refine lv_iload_n hx hb d_G_groupOfKeys_92 rfl (lv_at hl 2 rfl) ?_
                      exact rf_I (w := (fun z => wX true ca a z ++ tl)) h hx hb hr hlk hK hP hD hS d_G_groupOfKeys_93
                  refine lv_if_eq (tgt := 88) hx hb d_G_groupOfKeys_38 (by decide) (fun hc => ?_) (fun hc => ?_)
                  · replace h := it_t h hc
                    exact L88 σ x1 x2 x3 H locs ls hP hD hS (lv_sub hl [0, 1, 2, 3] rfl) h
                  · replace h := it_f h hc
                    refine lv_iload hx hb d_G_groupOfKeys_41 (lv_at hl 4 rfl) ?_
                    refine lv_iload_n hx hb d_G_groupOfKeys_43 rfl (lv_at hl 1 rfl) ?_
                    refine lv_icmp_ge (tgt := 88) hx hb d_G_groupOfKeys_44 (by decide) (fun hc => ?_) (fun hc => ?_)
                    · replace h := it_t h hc
                      exact L88 σ x1 x2 x3 H locs ls hP hD hS (lv_sub hl [0, 1, 2, 3] rfl) h
                    · replace h := it_f h hc
                      refine lv_aload_n hx hb d_G_groupOfKeys_47 rfl (lv_at hl 0 rfl) ?_
                      refine Xg_35_3 hx hb hB hown (hB _ m_620) hK hP d_G_groupOfKeys_48 ?_
                      refine lv_iload_n hx hb d_G_groupOfKeys_51 rfl (lv_at hl 2 rfl) ?_
                      refine lv_iconst (v := (4 : Int32)) hx hb d_G_groupOfKeys_52 (by decide) ?_
                      refine lv_imul hx hb d_G_groupOfKeys_53 ?_
                      refine lv_iload hx hb d_G_groupOfKeys_54 (lv_at hl 4 rfl) ?_
                      refine lv_iadd hx hb d_G_groupOfKeys_56 ?_
                      obtain ⟨hi, h⟩ := ckb_some h
                      refine Xa_36 hx hb hK hP hi d_G_groupOfKeys_57 ?_
                      refine lv_aload_n hx hb d_G_groupOfKeys_58 rfl (lv_at hl 0 rfl) ?_
                      refine Xg_35_3 hx hb hB hown (hB _ m_620) hK hP d_G_groupOfKeys_59 ?_
                      refine lv_aload_n hx hb d_G_groupOfKeys_62 rfl (lv_at hl 0 rfl) ?_
                      refine Xg_35_1 hx hb hB hown (hB _ m_617) hK hP d_G_groupOfKeys_63 ?_
                      refine lv_iconst (v := (4 : Int32)) hx hb d_G_groupOfKeys_66 (by decide) ?_
                      refine lv_imul hx hb d_G_groupOfKeys_67 ?_
                      refine lv_iload hx hb d_G_groupOfKeys_68 (lv_at hl 4 rfl) ?_
                      refine lv_iadd hx hb d_G_groupOfKeys_70 ?_
                      obtain ⟨hi, h⟩ := ckb_some h
                      refine Xa_36 hx hb hK hP hi d_G_groupOfKeys_71 ?_
                      refine W.lcmp hx hb d_G_groupOfKeys_72 ?_
                      refine lv_if_ne (tgt := 80) hx hb d_G_groupOfKeys_73 (by decide) (fun hc => ?_) (fun hc => ?_)
                      · replace h := it_f h hc
                        refine lv_iconst (v := (0 : Int32)) hx hb d_G_groupOfKeys_80 (by decide) ?_
                        refine lv_istore_n (lv' := [(3, .int (0 : Int32)), (0, .ref (a 35)), (1, .int x1), (2, .int x2), (4, .int x4)]) hx hb d_G_groupOfKeys_81 rfl hl (by decide) rfl (fun ls hl => ?_)
                        refine lv_iinc (v := (x4 + 1)) (lv' := [(4, .int (x4 + 1)), (3, .int (0 : Int32)), (0, .ref (a 35)), (1, .int x1), (2, .int x2)]) hx hb d_G_groupOfKeys_82 hl (k := 4) rfl rfl (by decide) rfl (fun ls hl => ?_)
                        refine lv_goto (tgt := 37) hx hb d_G_groupOfKeys_85 (by decide) ?_
                        exact ih37 σ x1 x2 (0 : Int32) (x4 + 1) H locs ls hP hD hS (lv_sub hl [2, 3, 4, 1, 0] rfl) h
                      · replace h := it_t h hc
                        refine lv_iconst (v := (1 : Int32)) hx hb d_G_groupOfKeys_76 (by decide) ?_
                        refine lv_goto (tgt := 81) hx hb d_G_groupOfKeys_77 (by decide) ?_
                        refine lv_istore_n (lv' := [(3, .int (1 : Int32)), (0, .ref (a 35)), (1, .int x1), (2, .int x2), (4, .int x4)]) hx hb d_G_groupOfKeys_81 rfl hl (by decide) rfl (fun ls hl => ?_)
                        refine lv_iinc (v := (x4 + 1)) (lv' := [(4, .int (x4 + 1)), (3, .int (1 : Int32)), (0, .ref (a 35)), (1, .int x1), (2, .int x2)]) hx hb d_G_groupOfKeys_82 hl (k := 4) rfl rfl (by decide) rfl (fun ls hl => ?_)
                        refine lv_goto (tgt := 37) hx hb d_G_groupOfKeys_85 (by decide) ?_
                        exact ih37 σ x1 x2 (1 : Int32) (x4 + 1) H locs ls hP hD hS (lv_sub hl [2, 3, 4, 1, 0] rfl) h
            refine lv_istore (lv' := [(4, .int (0 : Int32)), (3, .int (0 : Int32)), (0, .ref (a 35)), (1, .int x1), (2, .int x2)]) hx hb d_G_groupOfKeys_35 hl (by decide) rfl (fun ls hl => ?_)
            exact L37 N σ x1 x2 (0 : Int32) (0 : Int32) H locs ls hP hD hS (lv_sub hl [2, 3, 4, 1, 0] rfl) h
          · replace h := it_t h hc
            refine lv_iconst (v := (1 : Int32)) hx hb d_G_groupOfKeys_28 (by decide) ?_
            refine lv_goto (tgt := 33) hx hb d_G_groupOfKeys_29 (by decide) ?_
            refine lv_istore_n (lv' := [(3, .int (1 : Int32)), (0, .ref (a 35)), (1, .int x1), (2, .int x2)]) hx hb d_G_groupOfKeys_33 rfl hl (by decide) rfl (fun ls hl => ?_)
            refine lv_iconst (v := (0 : Int32)) hx hb d_G_groupOfKeys_34 (by decide) ?_
            have L37 : ∀ (n : Nat) (σ : St) (x1 : Int32) (x2 : Int32) (x3 : Int32) (x4 : Int32) (H : Heap) (locs : List Loc) (ls : Array Slot), va_P D vCl (wX true ca a σ ++ tl) H → va_D A (wX true ca a σ ++ tl) → va_S A s.heap H locs → lv_has ls 5 [(0, .ref (a 35)), (1, .int x1), (2, .int x2), (3, .int x3), (4, .int x4)] → f_G_groupOfKeys_37 N K2 n σ x1 x2 x3 x4 = some (r, σ') → W p l e R s m args below meth c H locs 0 0 (MQ below (qb_QI D vCl (tyX ca) (wX true ca a σ' ++ tl) A r) args s 0 0 A) (F0 m 37 ls []) := by
              intro n
              induction n with
              | zero => intro σ x1 x2 x3 x4 H locs ls hP hD hS hl h; cases h
              | succ n ih37 =>
                  intro σ x1 x2 x3 x4 H locs ls hP hD hS hl h
                  obtain ⟨K37, eK37⟩ : ∃ K, K = f_G_groupOfKeys_37 N K2 n := ⟨_, rfl⟩
                  rw [← eK37] at ih37
                  replace h : f_G_groupOfKeys_37_b N K2 K37 σ x1 x2 x3 x4 = some (r, σ') := by rw [eK37]; exact h
                  unfold f_G_groupOfKeys_37_b at h
                  refine lv_iload_n hx hb d_G_groupOfKeys_37 rfl (lv_at hl 3 rfl) ?_
                  have L88 : ∀ (σ : St) (x1 : Int32) (x2 : Int32) (x3 : Int32) (H : Heap) (locs : List Loc) (ls : Array Slot), va_P D vCl (wX true ca a σ ++ tl) H → va_D A (wX true ca a σ ++ tl) → va_S A s.heap H locs → lv_has ls 5 [(0, .ref (a 35)), (1, .int x1), (2, .int x2), (3, .int x3)] → f_G_groupOfKeys_88 N K2 σ x1 x2 x3 = some (r, σ') → W p l e R s m args below meth c H locs 0 0 (MQ below (qb_QI D vCl (tyX ca) (wX true ca a σ' ++ tl) A r) args s 0 0 A) (F0 m 88 ls []) := by
                    intro σ x1 x2 x3 H locs ls hP hD hS hl h
                    unfold f_G_groupOfKeys_88 at h
                    refine lv_iload_n hx hb d_G_groupOfKeys_88 rfl (lv_at hl 3 rfl) ?_
                    refine lv_if_eq (tgt := 94) hx hb d_G_groupOfKeys_89 (by decide) (fun hc => ?_) (fun hc => ?_)
                    · replace h := it_t h hc
                      refine lv_iinc (v := (x2 + 1)) (lv' := [(2, .int (x2 + 1)), (0, .ref (a 35)), (1, .int x1), (3, .int x3)]) hx hb d_G_groupOfKeys_94 hl (k := 2) rfl rfl (by decide) rfl (fun ls hl => ?_)
                      refine lv_goto (tgt := 2) hx hb d_G_groupOfKeys_97 (by decide) ?_
                      exact ih2 σ x1 (x2 + 1) H locs ls hP hD hS (lv_sub hl [1, 2, 0] rfl) h
                    · replace h := it_f h hc
                      refine lv_iload_n hx hb d_G_groupOfKeys_92 rfl (lv_at hl 2 rfl) ?_
                      exact rf_I (w := (fun z => wX true ca a z ++ tl)) h hx hb hr hlk hK hP hD hS d_G_groupOfKeys_93
                  refine lv_if_eq (tgt := 88) hx hb d_G_groupOfKeys_38 (by decide) (fun hc => ?_) (fun hc => ?_)
                  · replace h := it_t h hc
                    exact L88 σ x1 x2 x3 H locs ls hP hD hS (lv_sub hl [0, 1, 2, 3] rfl) h
                  · replace h := it_f h hc
                    refine lv_iload hx hb d_G_groupOfKeys_41 (lv_at hl 4 rfl) ?_
                    refine lv_iload_n hx hb d_G_groupOfKeys_43 rfl (lv_at hl 1 rfl) ?_
                    refine lv_icmp_ge (tgt := 88) hx hb d_G_groupOfKeys_44 (by decide) (fun hc => ?_) (fun hc => ?_)
                    · replace h := it_t h hc
                      exact L88 σ x1 x2 x3 H locs ls hP hD hS (lv_sub hl [0, 1, 2, 3] rfl) h
                    · replace h := it_f h hc
                      refine lv_aload_n hx hb d_G_groupOfKeys_47 rfl (lv_at hl 0 rfl) ?_
                      refine Xg_35_3 hx hb hB hown (hB _ m_620) hK hP d_G_groupOfKeys_48 ?_
                      refine lv_iload_n hx hb d_G_groupOfKeys_51 rfl (lv_at hl 2 rfl) ?_
                      refine lv_iconst (v := (4 : Int32)) hx hb d_G_groupOfKeys_52 (by decide) ?_
                      refine lv_imul hx hb d_G_groupOfKeys_53 ?_
                      refine lv_iload hx hb d_G_groupOfKeys_54 (lv_at hl 4 rfl) ?_
                      refine lv_iadd hx hb d_G_groupOfKeys_56 ?_
                      obtain ⟨hi, h⟩ := ckb_some h
                      refine Xa_36 hx hb hK hP hi d_G_groupOfKeys_57 ?_
                      refine lv_aload_n hx hb d_G_groupOfKeys_58 rfl (lv_at hl 0 rfl) ?_
                      refine Xg_35_3 hx hb hB hown (hB _ m_620) hK hP d_G_groupOfKeys_59 ?_
                      refine lv_aload_n hx hb d_G_groupOfKeys_62 rfl (lv_at hl 0 rfl) ?_
                      refine Xg_35_1 hx hb hB hown (hB _ m_617) hK hP d_G_groupOfKeys_63 ?_
                      refine lv_iconst (v := (4 : Int32)) hx hb d_G_groupOfKeys_66 (by decide) ?_
                      refine lv_imul hx hb d_G_groupOfKeys_67 ?_
                      refine lv_iload hx hb d_G_groupOfKeys_68 (lv_at hl 4 rfl) ?_
                      refine lv_iadd hx hb d_G_groupOfKeys_70 ?_
                      obtain ⟨hi, h⟩ := ckb_some h
                      refine Xa_36 hx hb hK hP hi d_G_groupOfKeys_71 ?_
                      refine W.lcmp hx hb d_G_groupOfKeys_72 ?_
                      refine lv_if_ne (tgt := 80) hx hb d_G_groupOfKeys_73 (by decide) (fun hc => ?_) (fun hc => ?_)
                      · replace h := it_f h hc
                        refine lv_iconst (v := (0 : Int32)) hx hb d_G_groupOfKeys_80 (by decide) ?_
                        refine lv_istore_n (lv' := [(3, .int (0 : Int32)), (0, .ref (a 35)), (1, .int x1), (2, .int x2), (4, .int x4)]) hx hb d_G_groupOfKeys_81 rfl hl (by decide) rfl (fun ls hl => ?_)
                        refine lv_iinc (v := (x4 + 1)) (lv' := [(4, .int (x4 + 1)), (3, .int (0 : Int32)), (0, .ref (a 35)), (1, .int x1), (2, .int x2)]) hx hb d_G_groupOfKeys_82 hl (k := 4) rfl rfl (by decide) rfl (fun ls hl => ?_)
                        refine lv_goto (tgt := 37) hx hb d_G_groupOfKeys_85 (by decide) ?_
                        exact ih37 σ x1 x2 (0 : Int32) (x4 + 1) H locs ls hP hD hS (lv_sub hl [2, 3, 4, 1, 0] rfl) h
                      · replace h := it_t h hc
                        refine lv_iconst (v := (1 : Int32)) hx hb d_G_groupOfKeys_76 (by decide) ?_
                        refine lv_goto (tgt := 81) hx hb d_G_groupOfKeys_77 (by decide) ?_
                        refine lv_istore_n (lv' := [(3, .int (1 : Int32)), (0, .ref (a 35)), (1, .int x1), (2, .int x2), (4, .int x4)]) hx hb d_G_groupOfKeys_81 rfl hl (by decide) rfl (fun ls hl => ?_)
                        refine lv_iinc (v := (x4 + 1)) (lv' := [(4, .int (x4 + 1)), (3, .int (1 : Int32)), (0, .ref (a 35)), (1, .int x1), (2, .int x2)]) hx hb d_G_groupOfKeys_82 hl (k := 4) rfl rfl (by decide) rfl (fun ls hl => ?_)
                        refine lv_goto (tgt := 37) hx hb d_G_groupOfKeys_85 (by decide) ?_
                        exact ih37 σ x1 x2 (1 : Int32) (x4 + 1) H locs ls hP hD hS (lv_sub hl [2, 3, 4, 1, 0] rfl) h
            refine lv_istore (lv' := [(4, .int (0 : Int32)), (3, .int (1 : Int32)), (0, .ref (a 35)), (1, .int x1), (2, .int x2)]) hx hb d_G_groupOfKeys_35 hl (by decide) rfl (fun ls hl => ?_)
            exact L37 N σ x1 x2 (1 : Int32) (0 : Int32) H locs ls hP hD hS (lv_sub hl [2, 3, 4, 1, 0] rfl) h
  refine lv_istore_n (lv' := [(2, .int (0 : Int32)), (0, .ref (a 35)), (1, .int x1)]) hx hb d_G_groupOfKeys_1 rfl hl (by decide) rfl (fun ls hl => ?_)
  exact L2 N σ x1 (0 : Int32) H locs ls hP hD hS (lv_sub hl [1, 2, 0] rfl) h
set_option maxRecDepth 100000 in
set_option maxHeartbeats 4000000 in
theorem c_G_placeRow (l : Launch) (D : va_G) (ca : Nat → ClassId) (a : Nat → Nat) (tl : va_W) (N : Nat) (σ σ' : St) (x1 : Int32) (h : f_G_placeRow N σ x1 = some ((), σ')) : CtV l y_G_placeRow ws_G_placeRow rm_G_placeRow 0 0 D vCl (tyX ca) nwX [.ref (a 35), .int x1] (wX true ca a σ ++ tl) (wX true ca a σ' ++ tl) := by
  refine en_V (ws' := BIG) (by decide +kernel) rfl (Nat.le_of_ble_eq_true rfl) ?_
  intro p e s m below meth c A ls R args H locs hR hx hb hr hlk hml hown hB hK hN hP hD hA hS hl
  have hl : lv_has ls 3 [(0, .ref (a 35)), (1, .int x1)] := hl
  unfold f_G_placeRow at h
  refine lv_iload_n hx hb d_G_placeRow_0 rfl (lv_at hl 1 rfl) ?_
  have L13 : ∀ (σ : St) (t0 : Int32) (H : Heap) (locs : List Loc) (ls : Array Slot), va_P D vCl (wX true ca a σ ++ tl) H → va_D A (wX true ca a σ ++ tl) → va_S A s.heap H locs → lv_has ls 3 [(0, .ref (a 35))] → f_G_placeRow_13 N σ t0 = some ((), σ') → W p l e R s m args below meth c H locs 0 0 (MQ below (qb_QV D vCl (tyX ca) (wX true ca a σ' ++ tl) A) args s 0 0 A) (F0 m 13 ls [.int t0]) := by
    intro σ t0 H locs ls hP hD hS hl h
    unfold f_G_placeRow_13 at h
    refine lv_istore_n (lv' := [(2, .int t0), (0, .ref (a 35))]) hx hb d_G_placeRow_13 rfl hl (by decide) rfl (fun ls hl => ?_)
    refine lv_iload_n hx hb d_G_placeRow_14 rfl (lv_at hl 0 rfl) ?_
    refine lv_aload_n hx hb d_G_placeRow_15 rfl (lv_at hl 1 rfl) ?_
    refine Xg_35_1 hx hb hB hown (hB _ m_617) hK hP d_G_placeRow_16 ?_
    have L27 : ∀ (σ : St) (x2 : Int32) (H : Heap) (locs : List Loc) (ls : Array Slot), va_P D vCl (wX true ca a σ ++ tl) H → va_D A (wX true ca a σ ++ tl) → va_S A s.heap H locs → lv_has ls 3 [(0, .ref (a 35)), (2, .int x2)] → f_G_placeRow_27 N σ x2 = some ((), σ') → W p l e R s m args below meth c H locs 0 0 (MQ below (qb_QV D vCl (tyX ca) (wX true ca a σ' ++ tl) A) args s 0 0 A) (F0 m 27 ls []) := by
      intro σ x2 H locs ls hP hD hS hl h
      unfold f_G_placeRow_27 at h
      refine lv_aload_n hx hb d_G_placeRow_27 rfl (lv_at hl 0 rfl) ?_
      refine Xg_35_5 hx hb hB hown (hB _ m_622) hK hP d_G_placeRow_28 ?_
      refine lv_iload_n hx hb d_G_placeRow_31 rfl (lv_at hl 1 rfl) ?_
      obtain ⟨hi, h⟩ := ckb_some h
      refine Xa_38 hx hb hK hP hi d_G_placeRow_32 ?_
      refine lv_iconst (v := (-1 : Int32)) hx hb d_G_placeRow_33 (by decide) ?_
      have L65 : ∀ (σ : St) (x2 : Int32) (H : Heap) (locs : List Loc) (ls : Array Slot), va_P D vCl (wX true ca a σ ++ tl) H → va_D A (wX true ca a σ ++ tl) → va_S A s.heap H locs → lv_has ls 3 [(0, .ref (a 35)), (2, .int x2)] → f_G_placeRow_65 N σ x2 = some ((), σ') → W p l e R s m args below meth c H locs 0 0 (MQ below (qb_QV D vCl (tyX ca) (wX true ca a σ' ++ tl) A) args s 0 0 A) (F0 m 65 ls []) := by
        intro σ x2 H locs ls hP hD hS hl h
        unfold f_G_placeRow_65 at h
        refine lv_aload_n hx hb d_G_placeRow_65 rfl (lv_at hl 0 rfl) ?_
        refine Xg_35_6 hx hb hB hown (hB _ m_623) hK hP d_G_placeRow_66 ?_
        refine lv_iload_n hx hb d_G_placeRow_69 rfl (lv_at hl 1 rfl) ?_
        refine lv_aload_n hx hb d_G_placeRow_70 rfl (lv_at hl 0 rfl) ?_
        refine Xg_35_2 hx hb hB hown (hB _ m_619) hK hP d_G_placeRow_71 ?_
        obtain ⟨hi, h⟩ := ckb_some h
        obtain ⟨s1, es1, h⟩ := nm_some h
        refine Xs_39 es1 hx hb hK hP hD hS hi d_G_placeRow_74 (fun H locs hP hD hS => ?_)
        refine lv_aload_n hx hb d_G_placeRow_75 rfl (lv_at hl 0 rfl) ?_
        refine Xg_35_7 hx hb hB hown (hB _ m_624) hK hP d_G_placeRow_76 ?_
        refine lv_aload_n hx hb d_G_placeRow_79 rfl (lv_at hl 0 rfl) ?_
        refine Xg_35_2 hx hb hB hown (hB _ m_619) hK hP d_G_placeRow_80 ?_
        refine lv_iconst (v := (-1 : Int32)) hx hb d_G_placeRow_83 (by decide) ?_
        obtain ⟨hi, h⟩ := ckb_some h
        obtain ⟨s2, es2, h⟩ := nm_some h
        refine Xs_40 es2 hx hb hK hP hD hS hi d_G_placeRow_84 (fun H locs hP hD hS => ?_)
        refine lv_aload_n hx hb d_G_placeRow_85 rfl (lv_at hl 0 rfl) ?_
        refine lv_iload_n hx hb d_G_placeRow_86 rfl (lv_at hl 1 rfl) ?_
        obtain ⟨s3, es3, h⟩ := nm_some h
        refine Xp_35_13 es3 hx hb hB hown (hB _ m_630) hK hP hD hS d_G_placeRow_87 (fun H locs hP hD hS => ?_)
        exact rf_V (w := (fun z => wX true ca a z ++ tl)) h hx hb hr hlk hK hP hD hS d_G_placeRow_90
      refine lv_icmp_ne (tgt := 50) hx hb d_G_placeRow_34 (by decide) (fun hc => ?_) (fun hc => ?_)
      · replace h := it_f h hc
        refine lv_aload_n hx hb d_G_placeRow_50 rfl (lv_at hl 0 rfl) ?_
        refine Xg_35_7 hx hb hB hown (hB _ m_624) hK hP d_G_placeRow_51 ?_
        refine lv_aload_n hx hb d_G_placeRow_54 rfl (lv_at hl 0 rfl) ?_
        refine Xg_35_6 hx hb hB hown (hB _ m_623) hK hP d_G_placeRow_55 ?_
        refine lv_iload_n hx hb d_G_placeRow_58 rfl (lv_at hl 1 rfl) ?_
        obtain ⟨hi, h⟩ := ckb_some h
        refine Xa_39 hx hb hK hP hi d_G_placeRow_59 ?_
        refine lv_aload_n hx hb d_G_placeRow_60 rfl (lv_at hl 0 rfl) ?_
        refine Xg_35_2 hx hb hB hown (hB _ m_619) hK hP d_G_placeRow_61 ?_
        obtain ⟨hi, h⟩ := ckb_some h
        obtain ⟨s4, es4, h⟩ := nm_some h
        refine Xs_40 es4 hx hb hK hP hD hS hi d_G_placeRow_64 (fun H locs hP hD hS => ?_)
        exact L65 s4 x2 H locs ls hP hD hS (lv_sub hl [0, 1] rfl) h
      · replace h := it_t h hc
        refine lv_aload_n hx hb d_G_placeRow_37 rfl (lv_at hl 0 rfl) ?_
        refine Xg_35_5 hx hb hB hown (hB _ m_622) hK hP d_G_placeRow_38 ?_
        refine lv_iload_n hx hb d_G_placeRow_41 rfl (lv_at hl 1 rfl) ?_
        refine lv_aload_n hx hb d_G_placeRow_42 rfl (lv_at hl 0 rfl) ?_
        refine Xg_35_2 hx hb hB hown (hB _ m_619) hK hP d_G_placeRow_43 ?_
        obtain ⟨hi, h⟩ := ckb_some h
        obtain ⟨s5, es5, h⟩ := nm_some h
        refine Xs_38 es5 hx hb hK hP hD hS hi d_G_placeRow_46 (fun H locs hP hD hS => ?_)
        refine lv_goto (tgt := 65) hx hb d_G_placeRow_47 (by decide) ?_
        exact L65 s5 x2 H locs ls hP hD hS (lv_sub hl [0, 1] rfl) h
    refine lv_icmp_ne (tgt := 27) hx hb d_G_placeRow_19 (by decide) (fun hc => ?_) (fun hc => ?_)
    · replace h := it_f h hc
      exact L27 σ t0 H locs ls hP hD hS (lv_sub hl [1, 0] rfl) h
    · replace h := it_t h hc
      refine lv_aload_n hx hb d_G_placeRow_22 rfl (lv_at hl 1 rfl) ?_
      refine lv_iload_n hx hb d_G_placeRow_23 rfl (lv_at hl 0 rfl) ?_
      obtain ⟨r6, s7, hr6, h⟩ := bd_some h
      cases r6
      refine go_VV (rest := []) ⟨hx, hb, hml, hown, hB⟩ nwX_ok (c_G_openGroup l D ca a tl N σ s7 t0 hr6) (cwx_V hB m_664 kw_G_openGroup ⟨by rw [hR]; decide, by rw [hR]; decide⟩ rfl rfl) (va_recv hK hP (ci := 6) (q0 := 35) rfl rfl) hN hK hP hD hS hA rfl hl.1 rfl (Nat.le_of_ble_eq_true rfl) d_G_placeRow_24 ⟨by rw [hR]; exact Nat.le_of_ble_eq_true rfl, by rw [hR]; exact Nat.le_of_ble_eq_true rfl⟩ (fun H locs hP hD hS => ?_)
      exact L27 s7 t0 H locs ls hP hD hS (lv_sub hl [1, 0] rfl) h
  refine lv_if_ne (tgt := 8) hx hb d_G_placeRow_1 (by decide) (fun hc => ?_) (fun hc => ?_)
  · replace h := it_f h hc
    refine lv_aload_n hx hb d_G_placeRow_8 rfl (lv_at hl 0 rfl) ?_
    refine lv_iload_n hx hb d_G_placeRow_9 rfl (lv_at hl 1 rfl) ?_
    obtain ⟨r8, s9, hr8, h⟩ := bd_some h
    refine go_VI (rest := []) ⟨hx, hb, hml, hown, hB⟩ nwX_ok (c_G_groupOfKeys l D ca a tl N σ s9 x1 r8 hr8) (cwx_V hB m_743 kw_G_groupOfKeys ⟨by rw [hR]; decide, by rw [hR]; decide⟩ rfl rfl) (va_recv hK hP (ci := 6) (q0 := 35) rfl rfl) hN hK hP hD hS hA rfl hl.1 rfl (Nat.le_of_ble_eq_true rfl) d_G_placeRow_10 ⟨by rw [hR]; exact Nat.le_of_ble_eq_true rfl, by rw [hR]; exact Nat.le_of_ble_eq_true rfl⟩ (fun H locs hP hD hS => ?_)
    exact L13 s9 r8 H locs ls hP hD hS (lv_sub hl [0] rfl) h
  · replace h := it_t h hc
    refine lv_iconst (v := (0 : Int32)) hx hb d_G_placeRow_4 (by decide) ?_
    refine lv_goto (tgt := 13) hx hb d_G_placeRow_5 (by decide) ?_
    exact L13 σ (0 : Int32) H locs ls hP hD hS (lv_sub hl [0] rfl) h
