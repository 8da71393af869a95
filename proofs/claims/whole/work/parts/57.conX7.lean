set_option maxRecDepth 100000 in
set_option maxHeartbeats 4000000 in
theorem c_G_endRow (l : Launch) (D : va_G) (ca : Nat → ClassId) (a : Nat → Nat) (tl : va_W) (N : Nat) (σ σ' : St) (h : f_G_endRow N σ = some ((), σ')) : CtV l y_G_endRow ws_G_endRow rm_G_endRow 0 0 D vCl (tyX ca) nwX [.ref (a 35)] (wX true ca a σ ++ tl) (wX true ca a σ' ++ tl) := by
  refine en_V (ws' := BIG) (by decide +kernel) rfl (Nat.le_of_ble_eq_true rfl) ?_
  intro p e s m below meth c A ls R args H locs hR hx hb hr hlk hml hown hB hK hN hP hD hA hS hl
  have hl : lv_has ls 1 [(0, .ref (a 35))] := hl
  unfold f_G_endRow at h
  refine lv_aload_n hx hb d_G_endRow_0 rfl (lv_at hl 0 rfl) ?_
  refine lv_dup hx hb d_G_endRow_1 rfl ?_
  refine Xg_35_2 hx hb hB hown (hB _ m_619) hK hP d_G_endRow_2 ?_
  refine lv_iconst (v := (1 : Int32)) hx hb d_G_endRow_5 (by decide) ?_
  refine lv_iadd hx hb d_G_endRow_6 ?_
  obtain ⟨s1, es1, h⟩ := nm_some h
  refine Xp_35_2 es1 hx hb hB hown (hB _ m_619) hK hP hD hS d_G_endRow_7 (fun H locs hP hD hS => ?_)
  exact rf_V (w := (fun z => wX true ca a z ++ tl)) h hx hb hr hlk hK hP hD hS d_G_endRow_10
set_option maxRecDepth 100000 in
set_option maxHeartbeats 4000000 in
theorem c_G_combine (l : Launch) (D : va_G) (ca : Nat → ClassId) (a : Nat → Nat) (tl : va_W) (N : Nat) (σ σ' : St) (x0 : Int32) (x1 : Int64) (x3 : Int64) (r : Int64) (h : f_G_combine N σ x0 x1 x3 = some (r, σ')) : CtL l y_G_combine ws_G_combine rm_G_combine 0 0 D vCl (tyX ca) nwX [.int x0, .long x1, .long x3] (wX true ca a σ ++ tl) (wX true ca a σ' ++ tl) r := by
  refine en_L (ws' := BIG) (by decide +kernel) rfl (Nat.le_of_ble_eq_true rfl) ?_
  intro p e s m below meth c A ls R args H locs hR hx hb hr hlk hml hown hB hK hN hP hD hA hS hl
  have hl : lv_has ls 5 [(0, .int x0), (1, .long x1), (3, .long x3)] := hl
  unfold f_G_combine at h
  refine lv_iload_n hx hb d_G_combine_0 rfl (lv_at hl 0 rfl) ?_
  by_cases c2 : x0 = 2
  · replace h := it_t h c2
    refine lv_tableIn (tgt := 32) hx hb d_G_combine_1 (by rw [c2]; decide) (by rw [c2]; decide) (by rw [c2]; rfl) (by decide) ?_
    refine lv_lload_n hx hb d_G_combine_32 rfl (lv_at hl 1 rfl) ?_
    refine lv_lload_n hx hb d_G_combine_33 rfl (lv_at hl 2 rfl) ?_
    refine lv_ladd hx hb d_G_combine_34 ?_
    exact rf_L (w := (fun z => wX true ca a z ++ tl)) h hx hb hr hlk hK hP hD hS d_G_combine_35
  replace h := it_f h c2
  by_cases c3 : x0 = 3
  · replace h := it_t h c3
    refine lv_tableIn (tgt := 36) hx hb d_G_combine_1 (by rw [c3]; decide) (by rw [c3]; decide) (by rw [c3]; rfl) (by decide) ?_
    refine lv_lload_n hx hb d_G_combine_36 rfl (lv_at hl 1 rfl) ?_
    refine lv_lload_n hx hb d_G_combine_37 rfl (lv_at hl 2 rfl) ?_
    refine va_mmin_long hx hb (hml.trans hl.1.symm) hown (hB _ m_762) (hB _ m_763) (hB _ m_82) (hB _ m_764) (by rw [hR]; exact Nat.le_of_ble_eq_true rfl) (by rw [hR]; exact Nat.le_of_ble_eq_true rfl) (by rw [hR]; exact Nat.le_of_ble_eq_true rfl) (by rw [hR]; exact Nat.le_of_ble_eq_true rfl) d_G_combine_38 ?_
    exact rf_L (w := (fun z => wX true ca a z ++ tl)) h hx hb hr hlk hK hP hD hS d_G_combine_41
  replace h := it_f h c3
  by_cases c4 : x0 = 4
  · replace h := it_t h c4
    refine lv_tableIn (tgt := 42) hx hb d_G_combine_1 (by rw [c4]; decide) (by rw [c4]; decide) (by rw [c4]; rfl) (by decide) ?_
    refine lv_lload_n hx hb d_G_combine_42 rfl (lv_at hl 1 rfl) ?_
    refine lv_lload_n hx hb d_G_combine_43 rfl (lv_at hl 2 rfl) ?_
    refine va_mmax_long hx hb (hml.trans hl.1.symm) hown (hB _ m_765) (hB _ m_766) (hB _ m_82) (hB _ m_767) (by rw [hR]; exact Nat.le_of_ble_eq_true rfl) (by rw [hR]; exact Nat.le_of_ble_eq_true rfl) (by rw [hR]; exact Nat.le_of_ble_eq_true rfl) (by rw [hR]; exact Nat.le_of_ble_eq_true rfl) d_G_combine_44 ?_
    exact rf_L (w := (fun z => wX true ca a z ++ tl)) h hx hb hr hlk hK hP hD hS d_G_combine_47
  replace h := it_f h c4
  by_cases c5 : x0 = 5
  · replace h := it_t h c5
    refine lv_tableIn (tgt := 32) hx hb d_G_combine_1 (by rw [c5]; decide) (by rw [c5]; decide) (by rw [c5]; rfl) (by decide) ?_
    refine lv_lload_n hx hb d_G_combine_32 rfl (lv_at hl 1 rfl) ?_
    refine lv_lload_n hx hb d_G_combine_33 rfl (lv_at hl 2 rfl) ?_
    refine lv_ladd hx hb d_G_combine_34 ?_
    exact rf_L (w := (fun z => wX true ca a z ++ tl)) h hx hb hr hlk hK hP hD hS d_G_combine_35
  replace h := it_f h c5
  have n2 := lv_neT c2 (show (2 : Int32).toInt = 2 by decide)
  have n3 := lv_neT c3 (show (3 : Int32).toInt = 3 by decide)
  have n4 := lv_neT c4 (show (4 : Int32).toInt = 4 by decide)
  have n5 := lv_neT c5 (show (5 : Int32).toInt = 5 by decide)
  refine lv_tableOut (tgt := 48) hx hb d_G_combine_1 (by omega) (by decide) ?_
  refine lv_lload_n hx hb d_G_combine_48 rfl (lv_at hl 1 rfl) ?_
  exact rf_L (w := (fun z => wX true ca a z ++ tl)) h hx hb hr hlk hK hP hD hS d_G_combine_49
set_option maxRecDepth 100000 in
set_option maxHeartbeats 4000000 in
theorem c_G_wasCounted (l : Launch) (D : va_G) (ca : Nat → ClassId) (a : Nat → Nat) (tl : va_W) (N : Nat) (σ σ' : St) (x1 : Int32) (x2 : Int64) (r : Int32) (h : f_G_wasCounted N σ x1 x2 = some (r, σ')) : CtI l y_G_wasCounted ws_G_wasCounted rm_G_wasCounted 0 0 D vCl (tyX ca) nwX [.ref (a 35), .int x1, .long x2] (wX true ca a σ ++ tl) (wX true ca a σ' ++ tl) r := by
  refine en_Z (ws' := BIG) (by decide +kernel) rfl (Nat.le_of_ble_eq_true rfl) ?_
  intro p e s m below meth c A ls R args H locs hR hx hb hr hlk hml hown hB hK hN hP hD hA hS hl
  have hl : lv_has ls 6 [(0, .ref (a 35)), (1, .int x1), (2, .long x2)] := hl
  unfold f_G_wasCounted at h
  refine lv_aload_n hx hb d_G_wasCounted_0 rfl (lv_at hl 0 rfl) ?_
  refine Xg_35_5 hx hb hB hown (hB _ m_622) hK hP d_G_wasCounted_1 ?_
  refine lv_aload_n hx hb d_G_wasCounted_4 rfl (lv_at hl 0 rfl) ?_
  refine Xg_35_13 hx hb hB hown (hB _ m_630) hK hP d_G_wasCounted_5 ?_
  obtain ⟨hi, h⟩ := ckb_some h
  refine Xa_38 hx hb hK hP hi d_G_wasCounted_8 ?_
  refine lv_istore (lv' := [(4, .int (ga σ 25 ((gi σ 20)).toNatClampNeg)), (0, .ref (a 35)), (1, .int x1), (2, .long x2)]) hx hb d_G_wasCounted_9 hl (by decide) rfl (fun ls hl => ?_)
  refine lv_iconst (v := (0 : Int32)) hx hb d_G_wasCounted_11 (by decide) ?_
  have L14 : ∀ (n : Nat) (σ : St) (x1 : Int32) (x2 : Int64) (x4 : Int32) (x5 : Int32) (H : Heap) (locs : List Loc) (ls : Array Slot), va_P D vCl (wX true ca a σ ++ tl) H → va_D A (wX true ca a σ ++ tl) → va_S A s.heap H locs → lv_has ls 6 [(0, .ref (a 35)), (1, .int x1), (2, .long x2), (4, .int x4), (5, .int x5)] → f_G_wasCounted_14 N n σ x1 x2 x4 x5 = some (r, σ') → W p l e R s m args below meth c H locs 0 0 (MQ below (qb_QI D vCl (tyX ca) (wX true ca a σ' ++ tl) A r) args s 0 0 A) (F0 m 14 ls []) := by
    intro n
    induction n with
    | zero => intro σ x1 x2 x4 x5 H locs ls hP hD hS hl h; cases h
    | succ n ih14 =>
        intro σ x1 x2 x4 x5 H locs ls hP hD hS hl h
        obtain ⟨K14, eK14⟩ : ∃ K, K = f_G_wasCounted_14 N n := ⟨_, rfl⟩
        rw [← eK14] at ih14
        replace h : f_G_wasCounted_14_b N K14 σ x1 x2 x4 x5 = some (r, σ') := by rw [eK14]; exact h
        unfold f_G_wasCounted_14_b at h
        refine lv_iload hx hb d_G_wasCounted_14 (lv_at hl 4 rfl) ?_
        refine lv_aload_n hx hb d_G_wasCounted_16 rfl (lv_at hl 0 rfl) ?_
        refine Xg_35_2 hx hb hB hown (hB _ m_619) hK hP d_G_wasCounted_17 ?_
        refine lv_icmp_ge (tgt := 77) hx hb d_G_wasCounted_20 (by decide) (fun hc => ?_) (fun hc => ?_)
        · replace h := it_t h hc
          refine lv_iconst (v := (0 : Int32)) hx hb d_G_wasCounted_77 (by decide) ?_
          exact rf_Z (w := (fun z => wX true ca a z ++ tl)) h hx hb hr hlk hK hP hD hS rfl d_G_wasCounted_78
        · replace h := it_f h hc
          refine lv_iload hx hb d_G_wasCounted_23 (lv_at hl 3 rfl) ?_
          refine lv_iconst (v := (-1 : Int32)) hx hb d_G_wasCounted_25 (by decide) ?_
          refine lv_icmp_eq (tgt := 77) hx hb d_G_wasCounted_26 (by decide) (fun hc => ?_) (fun hc => ?_)
          · replace h := it_t h hc
            refine lv_iconst (v := (0 : Int32)) hx hb d_G_wasCounted_77 (by decide) ?_
            exact rf_Z (w := (fun z => wX true ca a z ++ tl)) h hx hb hr hlk hK hP hD hS rfl d_G_wasCounted_78
          · replace h := it_f h hc
            refine lv_aload_n hx hb d_G_wasCounted_29 rfl (lv_at hl 0 rfl) ?_
            refine Xg_35_10 hx hb hB hown (hB _ m_627) hK hP d_G_wasCounted_30 ?_
            refine lv_iload hx hb d_G_wasCounted_33 (lv_at hl 3 rfl) ?_
            obtain ⟨hi, h⟩ := ckb_some h
            refine Xa_43 hx hb hK hP hi d_G_wasCounted_35 ?_
            refine lv_iload_n hx hb d_G_wasCounted_36 rfl (lv_at hl 1 rfl) ?_
            refine lv_ishr hx hb d_G_wasCounted_37 ?_
            refine lv_iconst (v := (1 : Int32)) hx hb d_G_wasCounted_38 (by decide) ?_
            refine lv_iand hx hb d_G_wasCounted_39 ?_
            have L62 : ∀ (σ : St) (x1 : Int32) (x2 : Int64) (x4 : Int32) (x5 : Int32) (H : Heap) (locs : List Loc) (ls : Array Slot), va_P D vCl (wX true ca a σ ++ tl) H → va_D A (wX true ca a σ ++ tl) → va_S A s.heap H locs → lv_has ls 6 [(0, .ref (a 35)), (1, .int x1), (2, .long x2), (4, .int x4), (5, .int x5)] → f_G_wasCounted_62 N K14 σ x1 x2 x4 x5 = some (r, σ') → W p l e R s m args below meth c H locs 0 0 (MQ below (qb_QI D vCl (tyX ca) (wX true ca a σ' ++ tl) A r) args s 0 0 A) (F0 m 62 ls []) := by
              intro σ x1 x2 x4 x5 H locs ls hP hD hS hl h
              unfold f_G_wasCounted_62 at h
              refine lv_aload_n hx hb d_G_wasCounted_62 rfl (lv_at hl 0 rfl) ?_
              refine Xg_35_7 hx hb hB hown (hB _ m_624) hK hP d_G_wasCounted_63 ?_
              refine lv_iload hx hb d_G_wasCounted_66 (lv_at hl 3 rfl) ?_
              obtain ⟨hi, h⟩ := ckb_some h
              refine Xa_40 hx hb hK hP hi d_G_wasCounted_68 ?_
              refine lv_istore (lv' := [(4, .int (ga σ 27 (x4).toNatClampNeg)), (0, .ref (a 35)), (1, .int x1), (2, .long x2), (5, .int x5)]) hx hb d_G_wasCounted_69 hl (by decide) rfl (fun ls hl => ?_)
              refine lv_iinc (v := (x5 + 1)) (lv' := [(5, .int (x5 + 1)), (4, .int (ga σ 27 (x4).toNatClampNeg)), (0, .ref (a 35)), (1, .int x1), (2, .long x2)]) hx hb d_G_wasCounted_71 hl (k := 4) rfl rfl (by decide) rfl (fun ls hl => ?_)
              refine lv_goto (tgt := 14) hx hb d_G_wasCounted_74 (by decide) ?_
              exact ih14 σ x1 x2 (ga σ 27 (x4).toNatClampNeg) (x5 + 1) H locs ls hP hD hS (lv_sub hl [2, 3, 4, 1, 0] rfl) h
            refine lv_if_eq (tgt := 62) hx hb d_G_wasCounted_40 (by decide) (fun hc => ?_) (fun hc => ?_)
            · replace h := it_t h hc
              exact L62 σ x1 x2 x4 x5 H locs ls hP hD hS (lv_sub hl [0, 1, 2, 3, 4] rfl) h
            · replace h := it_f h hc
              refine lv_aload_n hx hb d_G_wasCounted_43 rfl (lv_at hl 0 rfl) ?_
              refine Xg_35_9 hx hb hB hown (hB _ m_626) hK hP d_G_wasCounted_44 ?_
              refine lv_iload hx hb d_G_wasCounted_47 (lv_at hl 3 rfl) ?_
              refine lv_bipush (v := (8 : Int32)) hx hb d_G_wasCounted_49 (by decide) ?_
              refine lv_imul hx hb d_G_wasCounted_51 ?_
              refine lv_iload_n hx hb d_G_wasCounted_52 rfl (lv_at hl 1 rfl) ?_
              refine lv_iadd hx hb d_G_wasCounted_53 ?_
              obtain ⟨hi, h⟩ := ckb_some h
              refine Xa_42 hx hb hK hP hi d_G_wasCounted_54 ?_
              refine lv_lload_n hx hb d_G_wasCounted_55 rfl (lv_at hl 2 rfl) ?_
              refine W.lcmp hx hb d_G_wasCounted_56 ?_
              refine lv_if_ne (tgt := 62) hx hb d_G_wasCounted_57 (by decide) (fun hc => ?_) (fun hc => ?_)
              · replace h := it_f h hc
                exact L62 σ x1 x2 x4 x5 H locs ls hP hD hS (lv_sub hl [0, 1, 2, 3, 4] rfl) h
              · replace h := it_t h hc
                refine lv_iconst (v := (1 : Int32)) hx hb d_G_wasCounted_60 (by decide) ?_
                exact rf_Z (w := (fun z => wX true ca a z ++ tl)) h hx hb hr hlk hK hP hD hS rfl d_G_wasCounted_61
  refine lv_istore (lv' := [(5, .int (0 : Int32)), (4, .int (ga σ 25 ((gi σ 20)).toNatClampNeg)), (0, .ref (a 35)), (1, .int x1), (2, .long x2)]) hx hb d_G_wasCounted_12 hl (by decide) rfl (fun ls hl => ?_)
  exact L14 N σ x1 x2 (ga σ 25 ((gi σ 20)).toNatClampNeg) (0 : Int32) H locs ls hP hD hS (lv_sub hl [2, 3, 4, 1, 0] rfl) h
set_option maxRecDepth 100000 in
set_option maxHeartbeats 4000000 in
theorem c_G_takeNumber (l : Launch) (D : va_G) (ca : Nat → ClassId) (a : Nat → Nat) (tl : va_W) (N : Nat) (σ σ' : St) (x1 : Int32) (x2 : Int32) (x3 : Int64) (r : Int32) (h : f_G_takeNumber N σ x1 x2 x3 = some (r, σ')) : CtI l y_G_takeNumber ws_G_takeNumber rm_G_takeNumber 0 0 D vCl (tyX ca) nwX [.ref (a 35), .int x1, .int x2, .long x3] (wX true ca a σ ++ tl) (wX true ca a σ' ++ tl) r := by
  refine en_I (ws' := BIG) (by decide +kernel) rfl (Nat.le_of_ble_eq_true rfl) ?_
  intro p e s m below meth c A ls R args H locs hR hx hb hr hlk hml hown hB hK hN hP hD hA hS hl
  have hl : lv_has ls 8 [(0, .ref (a 35)), (1, .int x1), (2, .int x2), (3, .long x3)] := hl
  unfold f_G_takeNumber at h
  refine lv_iload_n hx hb d_G_takeNumber_0 rfl (lv_at hl 2 rfl) ?_
  refine lv_if_eq (tgt := 25) hx hb d_G_takeNumber_1 (by decide) (fun hc => ?_) (fun hc => ?_)
  · replace h := it_t h hc
    refine lv_iconst (v := (0 : Int32)) hx hb d_G_takeNumber_25 (by decide) ?_
    exact rf_I (w := (fun z => wX true ca a z ++ tl)) h hx hb hr hlk hK hP hD hS d_G_takeNumber_26
  · replace h := it_f h hc
    refine lv_aload_n hx hb d_G_takeNumber_4 rfl (lv_at hl 0 rfl) ?_
    refine Xg_35_0 hx hb hB hown (hB _ m_616) hK hP d_G_takeNumber_5 ?_
    refine Xg_6_12 hx hb hB hown (hB _ m_161) hK hP d_G_takeNumber_8 ?_
    refine lv_iload_n hx hb d_G_takeNumber_11 rfl (lv_at hl 1 rfl) ?_
    obtain ⟨hi, h⟩ := ckb_some h
    refine Xa_17 hx hb hK hP hi d_G_takeNumber_12 ?_
    have L27 : ∀ (σ : St) (x1 : Int32) (x3 : Int64) (H : Heap) (locs : List Loc) (ls : Array Slot), va_P D vCl (wX true ca a σ ++ tl) H → va_D A (wX true ca a σ ++ tl) → va_S A s.heap H locs → lv_has ls 8 [(0, .ref (a 35)), (1, .int x1), (3, .long x3)] → f_G_takeNumber_27 N σ x1 x3 = some (r, σ') → W p l e R s m args below meth c H locs 0 0 (MQ below (qb_QI D vCl (tyX ca) (wX true ca a σ' ++ tl) A r) args s 0 0 A) (F0 m 27 ls []) := by
      intro σ x1 x3 H locs ls hP hD hS hl h
      unfold f_G_takeNumber_27 at h
      refine lv_aload_n hx hb d_G_takeNumber_27 rfl (lv_at hl 0 rfl) ?_
      refine Xg_35_9 hx hb hB hown (hB _ m_626) hK hP d_G_takeNumber_28 ?_
      refine lv_aload_n hx hb d_G_takeNumber_31 rfl (lv_at hl 0 rfl) ?_
      refine Xg_35_2 hx hb hB hown (hB _ m_619) hK hP d_G_takeNumber_32 ?_
      refine lv_bipush (v := (8 : Int32)) hx hb d_G_takeNumber_35 (by decide) ?_
      refine lv_imul hx hb d_G_takeNumber_37 ?_
      refine lv_iload_n hx hb d_G_takeNumber_38 rfl (lv_at hl 1 rfl) ?_
      refine lv_iadd hx hb d_G_takeNumber_39 ?_
      refine lv_lload_n hx hb d_G_takeNumber_40 rfl (lv_at hl 2 rfl) ?_
      obtain ⟨hi, h⟩ := ckb_some h
      obtain ⟨s1, es1, h⟩ := nm_some h
      refine Xs_42 es1 hx hb hK hP hD hS hi d_G_takeNumber_41 (fun H locs hP hD hS => ?_)
      refine lv_aload_n hx hb d_G_takeNumber_42 rfl (lv_at hl 0 rfl) ?_
      refine Xg_35_10 hx hb hB hown (hB _ m_627) hK hP d_G_takeNumber_43 ?_
      refine lv_aload_n hx hb d_G_takeNumber_46 rfl (lv_at hl 0 rfl) ?_
      refine Xg_35_2 hx hb hB hown (hB _ m_619) hK hP d_G_takeNumber_47 ?_
      refine lv_dup2_11 hx hb d_G_takeNumber_50 rfl rfl ?_
      obtain ⟨hi, h⟩ := ckb_some h
      refine Xa_43 hx hb hK hP hi d_G_takeNumber_51 ?_
      refine lv_iconst (v := (1 : Int32)) hx hb d_G_takeNumber_52 (by decide) ?_
      refine lv_iload_n hx hb d_G_takeNumber_53 rfl (lv_at hl 1 rfl) ?_
      refine lv_ishl hx hb d_G_takeNumber_54 ?_
      refine lv_ior hx hb d_G_takeNumber_55 ?_
      obtain ⟨hi, h⟩ := ckb_some h
      obtain ⟨s2, es2, h⟩ := nm_some h
      refine Xs_43 es2 hx hb hK hP hD hS hi d_G_takeNumber_56 (fun H locs hP hD hS => ?_)
      refine lv_aload_n hx hb d_G_takeNumber_57 rfl (lv_at hl 0 rfl) ?_
      refine Xg_35_13 hx hb hB hown (hB _ m_630) hK hP d_G_takeNumber_58 ?_
      refine lv_bipush (v := (8 : Int32)) hx hb d_G_takeNumber_61 (by decide) ?_
      refine lv_imul hx hb d_G_takeNumber_63 ?_
      refine lv_iload_n hx hb d_G_takeNumber_64 rfl (lv_at hl 1 rfl) ?_
      refine lv_iadd hx hb d_G_takeNumber_65 ?_
      refine lv_istore (lv' := [(5, .int (((gi s2 20) * (8 : Int32)) + x1)), (0, .ref (a 35)), (1, .int x1), (3, .long x3)]) hx hb d_G_takeNumber_66 hl (by decide) rfl (fun ls hl => ?_)
      refine lv_aload_n hx hb d_G_takeNumber_68 rfl (lv_at hl 1 rfl) ?_
      refine Xg_35_11 hx hb hB hown (hB _ m_628) hK hP d_G_takeNumber_69 ?_
      refine lv_iload hx hb d_G_takeNumber_72 (lv_at hl 0 rfl) ?_
      obtain ⟨hi, h⟩ := ckb_some h
      refine Xa_44 hx hb hK hP hi d_G_takeNumber_74 ?_
      have L102 : ∀ (σ : St) (x5 : Int32) (t0 : Int64) (H : Heap) (locs : List Loc) (ls : Array Slot), va_P D vCl (wX true ca a σ ++ tl) H → va_D A (wX true ca a σ ++ tl) → va_S A s.heap H locs → lv_has ls 8 [(0, .ref (a 35)), (5, .int x5)] → f_G_takeNumber_102 N σ x5 t0 = some (r, σ') → W p l e R s m args below meth c H locs 0 0 (MQ below (qb_QI D vCl (tyX ca) (wX true ca a σ' ++ tl) A r) args s 0 0 A) (F0 m 102 ls [.long t0]) := by
        intro σ x5 t0 H locs ls hP hD hS hl h
        unfold f_G_takeNumber_102 at h
        refine lv_lstore (lv' := [(6, .long t0), (0, .ref (a 35)), (5, .int x5)]) hx hb d_G_takeNumber_102 hl (by decide) rfl (fun ls hl => ?_)
        refine lv_lload hx hb d_G_takeNumber_104 (lv_at hl 0 rfl) ?_
        refine lv_ldc2 (v := (-1000000000000000 : Int64)) hx hb hown (hB _ m_768) d_G_takeNumber_106 ?_
        refine W.lcmp hx hb d_G_takeNumber_109 ?_
        refine lv_if_lt (tgt := 122) hx hb d_G_takeNumber_110 (by decide) (fun hc => ?_) (fun hc => ?_)
        · replace h := it_t h hc
          refine lv_bipush (v := (-21 : Int32)) hx hb d_G_takeNumber_122 (by decide) ?_
          exact rf_I (w := (fun z => wX true ca a z ++ tl)) h hx hb hr hlk hK hP hD hS d_G_takeNumber_124
        · replace h := it_f h hc
          refine lv_lload hx hb d_G_takeNumber_113 (lv_at hl 0 rfl) ?_
          refine lv_ldc2 (v := (1000000000000000 : Int64)) hx hb hown (hB _ m_769) d_G_takeNumber_115 ?_
          refine W.lcmp hx hb d_G_takeNumber_118 ?_
          refine lv_if_le (tgt := 125) hx hb d_G_takeNumber_119 (by decide) (fun hc => ?_) (fun hc => ?_)
          · replace h := it_t h hc
            refine lv_aload_n hx hb d_G_takeNumber_125 rfl (lv_at hl 1 rfl) ?_
            refine Xg_35_11 hx hb hB hown (hB _ m_628) hK hP d_G_takeNumber_126 ?_
            refine lv_iload hx hb d_G_takeNumber_129 (lv_at hl 2 rfl) ?_
            refine lv_dup2_11 hx hb d_G_takeNumber_131 rfl rfl ?_
            obtain ⟨hi, h⟩ := ckb_some h
            refine Xa_44 hx hb hK hP hi d_G_takeNumber_132 ?_
            refine lv_iconst (v := (1 : Int32)) hx hb d_G_takeNumber_133 (by decide) ?_
            refine lv_iadd hx hb d_G_takeNumber_134 ?_
            obtain ⟨hi, h⟩ := ckb_some h
            obtain ⟨s3, es3, h⟩ := nm_some h
            refine Xs_44 es3 hx hb hK hP hD hS hi d_G_takeNumber_135 (fun H locs hP hD hS => ?_)
            refine lv_aload_n hx hb d_G_takeNumber_136 rfl (lv_at hl 1 rfl) ?_
            refine Xg_35_12 hx hb hB hown (hB _ m_629) hK hP d_G_takeNumber_137 ?_
            refine lv_iload hx hb d_G_takeNumber_140 (lv_at hl 2 rfl) ?_
            refine lv_lload hx hb d_G_takeNumber_142 (lv_at hl 0 rfl) ?_
            obtain ⟨hi, h⟩ := ckb_some h
            obtain ⟨s4, es4, h⟩ := nm_some h
            refine Xs_45 es4 hx hb hK hP hD hS hi d_G_takeNumber_144 (fun H locs hP hD hS => ?_)
            refine lv_iconst (v := (0 : Int32)) hx hb d_G_takeNumber_145 (by decide) ?_
            exact rf_I (w := (fun z => wX true ca a z ++ tl)) h hx hb hr hlk hK hP hD hS d_G_takeNumber_146
          · replace h := it_f h hc
            refine lv_bipush (v := (-21 : Int32)) hx hb d_G_takeNumber_122 (by decide) ?_
            exact rf_I (w := (fun z => wX true ca a z ++ tl)) h hx hb hr hlk hK hP hD hS d_G_takeNumber_124
      refine lv_if_ne (tgt := 82) hx hb d_G_takeNumber_75 (by decide) (fun hc => ?_) (fun hc => ?_)
      · replace h := it_f h hc
        refine lv_aload_n hx hb d_G_takeNumber_82 rfl (lv_at hl 1 rfl) ?_
        refine Xg_35_0 hx hb hB hown (hB _ m_616) hK hP d_G_takeNumber_83 ?_
        refine Xg_6_10 hx hb hB hown (hB _ m_156) hK hP d_G_takeNumber_86 ?_
        refine lv_iload_n hx hb d_G_takeNumber_89 rfl (lv_at hl 2 rfl) ?_
        obtain ⟨hi, h⟩ := ckb_some h
        refine Xa_15 hx hb hK hP hi d_G_takeNumber_90 ?_
        refine lv_aload_n hx hb d_G_takeNumber_91 rfl (lv_at hl 1 rfl) ?_
        refine Xg_35_12 hx hb hB hown (hB _ m_629) hK hP d_G_takeNumber_92 ?_
        refine lv_iload hx hb d_G_takeNumber_95 (lv_at hl 0 rfl) ?_
        obtain ⟨hi, h⟩ := ckb_some h
        refine Xa_45 hx hb hK hP hi d_G_takeNumber_97 ?_
        refine lv_lload_n hx hb d_G_takeNumber_98 rfl (lv_at hl 3 rfl) ?_
        obtain ⟨r5, s6, hr5, h⟩ := bd_some h
        refine go_SL (rest := []) ⟨hx, hb, hml, hown, hB⟩ nwX_ok (c_G_combine l D ca a tl N s2 s6 (ga s2 10 (x1).toNatClampNeg) (gb s2 5 ((((gi s2 20) * (8 : Int32)) + x1)).toNatClampNeg) x3 r5 hr5) (cwx_S hB m_759 kw_G_combine ⟨by rw [hR]; decide, by rw [hR]; decide⟩ rfl rfl) hN hK hP hD hS hA rfl hl.1 rfl (Nat.le_of_ble_eq_true rfl) d_G_takeNumber_99 ⟨by rw [hR]; exact Nat.le_of_ble_eq_true rfl, by rw [hR]; exact Nat.le_of_ble_eq_true rfl⟩ (fun H locs hP hD hS => ?_)
        exact L102 s6 (((gi s2 20) * (8 : Int32)) + x1) r5 H locs ls hP hD hS (lv_sub hl [1, 0] rfl) h
      · replace h := it_t h hc
        refine lv_lload_n hx hb d_G_takeNumber_78 rfl (lv_at hl 3 rfl) ?_
        refine lv_goto (tgt := 102) hx hb d_G_takeNumber_79 (by decide) ?_
        exact L102 s2 (((gi s2 20) * (8 : Int32)) + x1) x3 H locs ls hP hD hS (lv_sub hl [1, 0] rfl) h
    refine lv_if_eq (tgt := 27) hx hb d_G_takeNumber_13 (by decide) (fun hc => ?_) (fun hc => ?_)
    · replace h := it_t h hc
      exact L27 σ x1 x3 H locs ls hP hD hS (lv_sub hl [0, 1, 3] rfl) h
    · replace h := it_f h hc
      refine lv_aload_n hx hb d_G_takeNumber_16 rfl (lv_at hl 0 rfl) ?_
      refine lv_iload_n hx hb d_G_takeNumber_17 rfl (lv_at hl 1 rfl) ?_
      refine lv_lload_n hx hb d_G_takeNumber_18 rfl (lv_at hl 3 rfl) ?_
      obtain ⟨r7, s8, hr7, h⟩ := bd_some h
      refine go_VI (rest := []) ⟨hx, hb, hml, hown, hB⟩ nwX_ok (c_G_wasCounted l D ca a tl N σ s8 x1 x3 r7 hr7) (cwx_V hB m_755 kw_G_wasCounted ⟨by rw [hR]; decide, by rw [hR]; decide⟩ rfl rfl) (va_recv hK hP (ci := 6) (q0 := 35) rfl rfl) hN hK hP hD hS hA rfl hl.1 rfl (Nat.le_of_ble_eq_true rfl) d_G_takeNumber_19 ⟨by rw [hR]; exact Nat.le_of_ble_eq_true rfl, by rw [hR]; exact Nat.le_of_ble_eq_true rfl⟩ (fun H locs hP hD hS => ?_)
      refine lv_if_eq (tgt := 27) hx hb d_G_takeNumber_22 (by decide) (fun hc => ?_) (fun hc => ?_)
      · replace h := it_t h hc
        exact L27 s8 x1 x3 H locs ls hP hD hS (lv_sub hl [0, 1, 3] rfl) h
      · replace h := it_f h hc
        refine lv_iconst (v := (0 : Int32)) hx hb d_G_takeNumber_25 (by decide) ?_
        exact rf_I (w := (fun z => wX true ca a z ++ tl)) h hx hb hr hlk hK hP hD hS d_G_takeNumber_26
set_option maxRecDepth 100000 in
set_option maxHeartbeats 4000000 in
theorem c_R_aggregateRow (l : Launch) (D : va_G) (ca : Nat → ClassId) (a : Nat → Nat) (tl : va_W) (N : Nat) (σ σ' : St) (x2 : Int32) (r : Int32) (h : f_R_aggregateRow N σ x2 = some (r, σ')) : CtI l y_R_aggregateRow ws_R_aggregateRow rm_R_aggregateRow 0 0 D vCl (tyX ca) nwX [.ref (a 30), .ref (a 35), .int x2] (wX true ca a σ ++ tl) (wX true ca a σ' ++ tl) r := by
  refine en_I (ws' := BIG) (by decide +kernel) rfl (Nat.le_of_ble_eq_true rfl) ?_
  intro p e s m below meth c A ls R args H locs hR hx hb hr hlk hml hown hB hK hN hP hD hA hS hl
  have hl : lv_has ls 4 [(0, .ref (a 30)), (1, .ref (a 35)), (2, .int x2)] := hl
  unfold f_R_aggregateRow at h
  refine lv_aload_n hx hb d_R_aggregateRow_0 rfl (lv_at hl 0 rfl) ?_
  refine Xg_30_1 hx hb hB hown (hB _ m_365) hK hP d_R_aggregateRow_1 ?_
  refine Xg_6_10 hx hb hB hown (hB _ m_157) hK hP d_R_aggregateRow_4 ?_
  refine lv_iload_n hx hb d_R_aggregateRow_7 rfl (lv_at hl 2 rfl) ?_
  obtain ⟨hi, h⟩ := ckb_some h
  refine Xa_15 hx hb hK hP hi d_R_aggregateRow_8 ?_
  refine lv_if_ne (tgt := 20) hx hb d_R_aggregateRow_9 (by decide) (fun hc => ?_) (fun hc => ?_)
  · replace h := it_f h hc
    refine lv_aload_n hx hb d_R_aggregateRow_20 rfl (lv_at hl 0 rfl) ?_
    refine Xg_30_5 hx hb hB hown (hB _ m_369) hK hP d_R_aggregateRow_21 ?_
    refine lv_aload_n hx hb d_R_aggregateRow_24 rfl (lv_at hl 0 rfl) ?_
    refine Xg_30_1 hx hb hB hown (hB _ m_365) hK hP d_R_aggregateRow_25 ?_
    refine Xg_6_11 hx hb hB hown (hB _ m_159) hK hP d_R_aggregateRow_28 ?_
    refine lv_iload_n hx hb d_R_aggregateRow_31 rfl (lv_at hl 2 rfl) ?_
    obtain ⟨hi, h⟩ := ckb_some h
    refine Xa_16 hx hb hK hP hi d_R_aggregateRow_32 ?_
    refine lv_iconst (v := (0 : Int32)) hx hb d_R_aggregateRow_33 (by decide) ?_
    obtain ⟨r1, s2, hr1, h⟩ := bd_some h
    refine go_NI (rest := []) ⟨hx, hb, hml, hown, hB⟩ nwX_ok (c_V_value l D ca true a tl N 130 σ s2 (ga σ 11 (x2).toNatClampNeg) (0 : Int32) r1 hr1) (cwx_N hB hN (List.mem_of_getElem? (i := 0) rfl) kw_V_value ⟨by rw [hR]; decide, by rw [hR]; decide⟩ rfl rfl) (va_recv hK hP (ci := 4) (q0 := 33) rfl rfl) hN hK hP hD hS hA rfl hl.1 rfl (Nat.le_of_ble_eq_true rfl) d_R_aggregateRow_34 ⟨by rw [hR]; exact Nat.le_of_ble_eq_true rfl, by rw [hR]; exact Nat.le_of_ble_eq_true rfl⟩ (fun H locs hP hD hS => ?_)
    refine lv_istore_n (lv' := [(3, .int r1), (0, .ref (a 30)), (1, .ref (a 35)), (2, .int x2)]) hx hb d_R_aggregateRow_37 rfl hl (by decide) rfl (fun ls hl => ?_)
    refine lv_iload_n hx hb d_R_aggregateRow_38 rfl (lv_at hl 0 rfl) ?_
    refine lv_if_ge (tgt := 46) hx hb d_R_aggregateRow_39 (by decide) (fun hc => ?_) (fun hc => ?_)
    · replace h := it_t h hc
      refine lv_aload_n hx hb d_R_aggregateRow_46 rfl (lv_at hl 2 rfl) ?_
      refine lv_iload_n hx hb d_R_aggregateRow_47 rfl (lv_at hl 3 rfl) ?_
      refine lv_iload_n hx hb d_R_aggregateRow_48 rfl (lv_at hl 0 rfl) ?_
      refine lv_aload_n hx hb d_R_aggregateRow_49 rfl (lv_at hl 1 rfl) ?_
      refine Xg_30_5 hx hb hB hown (hB _ m_369) hK hP d_R_aggregateRow_50 ?_
      refine Xg_33_5 hx hb hB hown (hB _ m_347) hK hP d_R_aggregateRow_53 ?_
      obtain ⟨r3, s4, hr3, h⟩ := bd_some h
      refine go_VI (rest := []) ⟨hx, hb, hml, hown, hB⟩ nwX_ok (c_G_takeNumber l D ca a tl N s2 s4 x2 r1 (gl s2 0) r3 hr3) (cwx_V hB m_751 kw_G_takeNumber ⟨by rw [hR]; decide, by rw [hR]; decide⟩ rfl rfl) (va_recv hK hP (ci := 6) (q0 := 35) rfl rfl) hN hK hP hD hS hA rfl hl.1 rfl (Nat.le_of_ble_eq_true rfl) d_R_aggregateRow_56 ⟨by rw [hR]; exact Nat.le_of_ble_eq_true rfl, by rw [hR]; exact Nat.le_of_ble_eq_true rfl⟩ (fun H locs hP hD hS => ?_)
      exact rf_I (w := (fun z => wX true ca a z ++ tl)) h hx hb hr hlk hK hP hD hS d_R_aggregateRow_59
    · replace h := it_f h hc
      refine lv_iload_n hx hb d_R_aggregateRow_42 rfl (lv_at hl 0 rfl) ?_
      refine lv_goto (tgt := 59) hx hb d_R_aggregateRow_43 (by decide) ?_
      exact rf_I (w := (fun z => wX true ca a z ++ tl)) h hx hb hr hlk hK hP hD hS d_R_aggregateRow_59
  · replace h := it_t h hc
    refine lv_aload_n hx hb d_R_aggregateRow_12 rfl (lv_at hl 1 rfl) ?_
    refine lv_iload_n hx hb d_R_aggregateRow_13 rfl (lv_at hl 2 rfl) ?_
    refine lv_iconst (v := (1 : Int32)) hx hb d_R_aggregateRow_14 (by decide) ?_
    refine lv_lconst (v := (0 : Int64)) hx hb d_R_aggregateRow_15 (by decide) ?_
    obtain ⟨r5, s6, hr5, h⟩ := bd_some h
    refine go_VI (rest := []) ⟨hx, hb, hml, hown, hB⟩ nwX_ok (c_G_takeNumber l D ca a tl N σ s6 x2 (1 : Int32) (0 : Int64) r5 hr5) (cwx_V hB m_751 kw_G_takeNumber ⟨by rw [hR]; decide, by rw [hR]; decide⟩ rfl rfl) (va_recv hK hP (ci := 6) (q0 := 35) rfl rfl) hN hK hP hD hS hA rfl hl.1 rfl (Nat.le_of_ble_eq_true rfl) d_R_aggregateRow_16 ⟨by rw [hR]; exact Nat.le_of_ble_eq_true rfl, by rw [hR]; exact Nat.le_of_ble_eq_true rfl⟩ (fun H locs hP hD hS => ?_)
    exact rf_I (w := (fun z => wX true ca a z ++ tl)) h hx hb hr hlk hK hP hD hS d_R_aggregateRow_19
set_option maxRecDepth 100000 in
set_option maxHeartbeats 4000000 in
theorem c_G_setKey (l : Launch) (D : va_G) (ca : Nat → ClassId) (a : Nat → Nat) (tl : va_W) (N : Nat) (σ σ' : St) (x1 : Int32) (x2 : Int32) (x3 : Int64) (h : f_G_setKey N σ x1 x2 x3 = some ((), σ')) : CtV l y_G_setKey ws_G_setKey rm_G_setKey 0 0 D vCl (tyX ca) nwX [.ref (a 35), .int x1, .int x2, .long x3] (wX true ca a σ ++ tl) (wX true ca a σ' ++ tl) := by
  refine en_V (ws' := BIG) (by decide +kernel) rfl (Nat.le_of_ble_eq_true rfl) ?_
  intro p e s m below meth c A ls R args H locs hR hx hb hr hlk hml hown hB hK hN hP hD hA hS hl
  have hl : lv_has ls 5 [(0, .ref (a 35)), (1, .int x1), (2, .int x2), (3, .long x3)] := hl
  unfold f_G_setKey at h
  refine lv_aload_n hx hb d_G_setKey_0 rfl (lv_at hl 0 rfl) ?_
  refine Xg_35_3 hx hb hB hown (hB _ m_620) hK hP d_G_setKey_1 ?_
  refine lv_aload_n hx hb d_G_setKey_4 rfl (lv_at hl 0 rfl) ?_
  refine Xg_35_1 hx hb hB hown (hB _ m_617) hK hP d_G_setKey_5 ?_
  refine lv_iconst (v := (4 : Int32)) hx hb d_G_setKey_8 (by decide) ?_
  refine lv_imul hx hb d_G_setKey_9 ?_
  refine lv_iload_n hx hb d_G_setKey_10 rfl (lv_at hl 1 rfl) ?_
  refine lv_iadd hx hb d_G_setKey_11 ?_
  refine lv_lload_n hx hb d_G_setKey_12 rfl (lv_at hl 3 rfl) ?_
  obtain ⟨hi, h⟩ := ckb_some h
  obtain ⟨s1, es1, h⟩ := nm_some h
  refine Xs_36 es1 hx hb hK hP hD hS hi d_G_setKey_13 (fun H locs hP hD hS => ?_)
  refine lv_iload_n hx hb d_G_setKey_14 rfl (lv_at hl 2 rfl) ?_
  refine lv_if_ne (tgt := 33) hx hb d_G_setKey_15 (by decide) (fun hc => ?_) (fun hc => ?_)
  · replace h := it_f h hc
    exact rf_V (w := (fun z => wX true ca a z ++ tl)) h hx hb hr hlk hK hP hD hS d_G_setKey_33
  · replace h := it_t h hc
    refine lv_aload_n hx hb d_G_setKey_18 rfl (lv_at hl 0 rfl) ?_
    refine Xg_35_4 hx hb hB hown (hB _ m_621) hK hP d_G_setKey_19 ?_
    refine lv_aload_n hx hb d_G_setKey_22 rfl (lv_at hl 0 rfl) ?_
    refine Xg_35_1 hx hb hB hown (hB _ m_617) hK hP d_G_setKey_23 ?_
    refine lv_dup2_11 hx hb d_G_setKey_26 rfl rfl ?_
    obtain ⟨hi, h⟩ := ckb_some h
    refine Xa_37 hx hb hK hP hi d_G_setKey_27 ?_
    refine lv_iconst (v := (1 : Int32)) hx hb d_G_setKey_28 (by decide) ?_
    refine lv_iload_n hx hb d_G_setKey_29 rfl (lv_at hl 1 rfl) ?_
    refine lv_ishl hx hb d_G_setKey_30 ?_
    refine lv_ior hx hb d_G_setKey_31 ?_
    obtain ⟨hi, h⟩ := ckb_some h
    obtain ⟨s2, es2, h⟩ := nm_some h
    refine Xs_37 es2 hx hb hK hP hD hS hi d_G_setKey_32 (fun H locs hP hD hS => ?_)
    exact rf_V (w := (fun z => wX true ca a z ++ tl)) h hx hb hr hlk hK hP hD hS d_G_setKey_33
set_option maxRecDepth 100000 in
set_option maxHeartbeats 4000000 in
theorem c_R_groupRow (l : Launch) (D : va_G) (ca : Nat → ClassId) (g : Bool) (a : Nat → Nat) (tl : va_W) (N : Nat) (σ σ' : St) (r : Int32) (h : f_R_groupRow N g σ = some (r, σ')) : CtI l y_R_groupRow ws_R_groupRow rm_R_groupRow 0 0 D vCl (tyX ca) nwX [.ref (a 30)] (wX g ca a σ ++ tl) (wX g ca a σ' ++ tl) r := by
  refine en_I (ws' := BIG) (by decide +kernel) rfl (Nat.le_of_ble_eq_true rfl) ?_
  intro p e s m below meth c A ls R args H locs hR hx hb hr hlk hml hown hB hK hN hP hD hA hS hl
  have hl : lv_has ls 4 [(0, .ref (a 30))] := hl
  unfold f_R_groupRow at h
  refine lv_aload_n hx hb d_R_groupRow_0 rfl (lv_at hl 0 rfl) ?_
  refine Xg_30_5 hx hb hB hown (hB _ m_369) hK hP d_R_groupRow_1 ?_
  cases g with
  | true =>
    replace h := it_t h rfl
    refine Xg_33_4t hx hb hB hown (hB _ m_344) hK hP d_R_groupRow_4 ?_
    refine lv_astore_n (lv' := [(1, .ref (a 35)), (0, .ref (a 30))]) hx hb d_R_groupRow_7 rfl hl (by decide) rfl (fun ls hl => ?_)
    refine lv_aload_n hx hb d_R_groupRow_8 rfl (lv_at hl 0 rfl) ?_
    refine lv_ifnull hx hb d_R_groupRow_9 ?_
    refine lv_aload_n hx hb d_R_groupRow_12 rfl (lv_at hl 0 rfl) ?_
    obtain ⟨r1, s2, hr1, h⟩ := bd_some h
    refine go_VI (rest := []) ⟨hx, hb, hml, hown, hB⟩ nwX_ok (c_G_isFull l D ca a tl N σ s2 r1 hr1) (cwx_V hB m_723 kw_G_isFull ⟨by rw [hR]; decide, by rw [hR]; decide⟩ rfl rfl) (va_recv hK hP (ci := 6) (q0 := 35) rfl rfl) hN hK hP hD hS hA rfl hl.1 rfl (Nat.le_of_ble_eq_true rfl) d_R_groupRow_13 ⟨by rw [hR]; exact Nat.le_of_ble_eq_true rfl, by rw [hR]; exact Nat.le_of_ble_eq_true rfl⟩ (fun H locs hP hD hS => ?_)
    refine lv_if_eq (tgt := 21) hx hb d_R_groupRow_16 (by decide) (fun hc => ?_) (fun hc => ?_)
    · replace h := it_t h hc
      refine lv_aload_n hx hb d_R_groupRow_21 rfl (lv_at hl 0 rfl) ?_
      refine lv_aload_n hx hb d_R_groupRow_22 rfl (lv_at hl 1 rfl) ?_
      refine Xg_30_5 hx hb hB hown (hB _ m_369) hK hP d_R_groupRow_23 ?_
      refine Xg_33_3 hx hb hB hown (hB _ m_343) hK hP d_R_groupRow_26 ?_
      obtain ⟨r3, s4, hr3, h⟩ := bd_some h
      cases r3
      refine go_VV (rest := []) ⟨hx, hb, hml, hown, hB⟩ nwX_ok (c_G_startRow l D ca a tl N s2 s4 hr3) (cwx_V hB m_727 kw_G_startRow ⟨by rw [hR]; decide, by rw [hR]; decide⟩ rfl rfl) (va_recv hK hP (ci := 6) (q0 := 35) rfl rfl) hN hK hP hD hS hA rfl hl.1 rfl (Nat.le_of_ble_eq_true rfl) d_R_groupRow_29 ⟨by rw [hR]; exact Nat.le_of_ble_eq_true rfl, by rw [hR]; exact Nat.le_of_ble_eq_true rfl⟩ (fun H locs hP hD hS => ?_)
      refine lv_iconst (v := (0 : Int32)) hx hb d_R_groupRow_32 (by decide) ?_
      have L34 : ∀ (n : Nat) (σ : St) (x2 : Int32) (H : Heap) (locs : List Loc) (ls : Array Slot), va_P D vCl (wX true ca a σ ++ tl) H → va_D A (wX true ca a σ ++ tl) → va_S A s.heap H locs → lv_has ls 4 [(0, .ref (a 30)), (1, .ref (a 35)), (2, .int x2)] → f_R_groupRow_34 N true n σ x2 = some (r, σ') → W p l e R s m args below meth c H locs 0 0 (MQ below (qb_QI D vCl (tyX ca) (wX true ca a σ' ++ tl) A r) args s 0 0 A) (F0 m 34 ls []) := by
        intro n
        induction n with
        | zero => intro σ x2 H locs ls hP hD hS hl h; cases h
        | succ n ih34 =>
            intro σ x2 H locs ls hP hD hS hl h
            obtain ⟨K34, eK34⟩ : ∃ K, K = f_R_groupRow_34 N true n := ⟨_, rfl⟩
            rw [← eK34] at ih34
            replace h : f_R_groupRow_34_b N true K34 σ x2 = some (r, σ') := by rw [eK34]; exact h
            unfold f_R_groupRow_34_b at h
            refine lv_iload_n hx hb d_R_groupRow_34 rfl (lv_at hl 2 rfl) ?_
            refine lv_aload_n hx hb d_R_groupRow_35 rfl (lv_at hl 0 rfl) ?_
            refine Xg_30_2 hx hb hB hown (hB _ m_366) hK hP d_R_groupRow_36 ?_
            refine Xg_18_6 hx hb hB hown (hB _ m_218) hK hP d_R_groupRow_39 ?_
            refine lv_icmp_ge (tgt := 88) hx hb d_R_groupRow_42 (by decide) (fun hc => ?_) (fun hc => ?_)
            · replace h := it_t h hc
              refine lv_aload_n hx hb d_R_groupRow_88 rfl (lv_at hl 1 rfl) ?_
              refine lv_aload_n hx hb d_R_groupRow_89 rfl (lv_at hl 0 rfl) ?_
              refine Xg_30_2 hx hb hB hown (hB _ m_366) hK hP d_R_groupRow_90 ?_
              refine Xg_18_6 hx hb hB hown (hB _ m_218) hK hP d_R_groupRow_93 ?_
              obtain ⟨r5, s6, hr5, h⟩ := bd_some h
              cases r5
              refine go_VV (rest := []) ⟨hx, hb, hml, hown, hB⟩ nwX_ok (c_G_placeRow l D ca a tl N σ s6 (gi σ 6) hr5) (cwx_V hB m_739 kw_G_placeRow ⟨by rw [hR]; decide, by rw [hR]; decide⟩ rfl rfl) (va_recv hK hP (ci := 6) (q0 := 35) rfl rfl) hN hK hP hD hS hA rfl hl.1 rfl (Nat.le_of_ble_eq_true rfl) d_R_groupRow_96 ⟨by rw [hR]; exact Nat.le_of_ble_eq_true rfl, by rw [hR]; exact Nat.le_of_ble_eq_true rfl⟩ (fun H locs hP hD hS => ?_)
              refine lv_iconst (v := (0 : Int32)) hx hb d_R_groupRow_99 (by decide) ?_
              have L101 : ∀ (n : Nat) (σ : St) (x2 : Int32) (H : Heap) (locs : List Loc) (ls : Array Slot), va_P D vCl (wX true ca a σ ++ tl) H → va_D A (wX true ca a σ ++ tl) → va_S A s.heap H locs → lv_has ls 4 [(0, .ref (a 30)), (1, .ref (a 35)), (2, .int x2)] → f_R_groupRow_101 N true n σ x2 = some (r, σ') → W p l e R s m args below meth c H locs 0 0 (MQ below (qb_QI D vCl (tyX ca) (wX true ca a σ' ++ tl) A r) args s 0 0 A) (F0 m 101 ls []) := by
                intro n
                induction n with
                | zero => intro σ x2 H locs ls hP hD hS hl h; cases h
                | succ n ih101 =>
                    intro σ x2 H locs ls hP hD hS hl h
                    obtain ⟨K101, eK101⟩ : ∃ K, K = f_R_groupRow_101 N true n := ⟨_, rfl⟩
                    rw [← eK101] at ih101
                    replace h : f_R_groupRow_101_b N true K101 σ x2 = some (r, σ') := by rw [eK101]; exact h
                    unfold f_R_groupRow_101_b at h
                    refine lv_iload_n hx hb d_R_groupRow_101 rfl (lv_at hl 2 rfl) ?_
                    refine lv_aload_n hx hb d_R_groupRow_102 rfl (lv_at hl 0 rfl) ?_
                    refine Xg_30_1 hx hb hB hown (hB _ m_365) hK hP d_R_groupRow_103 ?_
                    refine Xg_6_1 hx hb hB hown (hB _ m_135) hK hP d_R_groupRow_106 ?_
                    refine lv_icmp_ge (tgt := 146) hx hb d_R_groupRow_109 (by decide) (fun hc => ?_) (fun hc => ?_)
                    · replace h := it_t h hc
                      refine lv_aload_n hx hb d_R_groupRow_146 rfl (lv_at hl 1 rfl) ?_
                      obtain ⟨r7, s8, hr7, h⟩ := bd_some h
                      cases r7
                      refine go_VV (rest := []) ⟨hx, hb, hml, hown, hB⟩ nwX_ok (c_G_endRow l D ca a tl N σ s8 hr7) (cwx_V hB m_770 kw_G_endRow ⟨by rw [hR]; decide, by rw [hR]; decide⟩ rfl rfl) (va_recv hK hP (ci := 6) (q0 := 35) rfl rfl) hN hK hP hD hS hA rfl hl.1 rfl (Nat.le_of_ble_eq_true rfl) d_R_groupRow_147 ⟨by rw [hR]; exact Nat.le_of_ble_eq_true rfl, by rw [hR]; exact Nat.le_of_ble_eq_true rfl⟩ (fun H locs hP hD hS => ?_)
                      refine lv_iconst (v := (0 : Int32)) hx hb d_R_groupRow_150 (by decide) ?_
                      exact rf_I (w := (fun z => wX true ca a z ++ tl)) h hx hb hr hlk hK hP hD hS d_R_groupRow_151
                    · replace h := it_f h hc
                      refine lv_aload_n hx hb d_R_groupRow_112 rfl (lv_at hl 0 rfl) ?_
                      refine Xg_30_7 hx hb hB hown (hB _ m_371) hK hP d_R_groupRow_113 ?_
                      refine lv_iload_n hx hb d_R_groupRow_116 rfl (lv_at hl 2 rfl) ?_
                      refine lv_ishr hx hb d_R_groupRow_117 ?_
                      refine lv_iconst (v := (1 : Int32)) hx hb d_R_groupRow_118 (by decide) ?_
                      refine lv_iand hx hb d_R_groupRow_119 ?_
                      have L133 : ∀ (σ : St) (x2 : Int32) (t0 : Int32) (H : Heap) (locs : List Loc) (ls : Array Slot), va_P D vCl (wX true ca a σ ++ tl) H → va_D A (wX true ca a σ ++ tl) → va_S A s.heap H locs → lv_has ls 4 [(0, .ref (a 30)), (1, .ref (a 35)), (2, .int x2)] → f_R_groupRow_133 N true K101 σ x2 t0 = some (r, σ') → W p l e R s m args below meth c H locs 0 0 (MQ below (qb_QI D vCl (tyX ca) (wX true ca a σ' ++ tl) A r) args s 0 0 A) (F0 m 133 ls [.int t0]) := by
                        intro σ x2 t0 H locs ls hP hD hS hl h
                        unfold f_R_groupRow_133 at h
                        refine lv_istore_n (lv' := [(3, .int t0), (0, .ref (a 30)), (1, .ref (a 35)), (2, .int x2)]) hx hb d_R_groupRow_133 rfl hl (by decide) rfl (fun ls hl => ?_)
                        refine lv_iload_n hx hb d_R_groupRow_134 rfl (lv_at hl 0 rfl) ?_
                        refine lv_if_eq (tgt := 140) hx hb d_R_groupRow_135 (by decide) (fun hc => ?_) (fun hc => ?_)
                        · replace h := it_t h hc
                          refine lv_iinc (v := (x2 + 1)) (lv' := [(2, .int (x2 + 1)), (3, .int t0), (0, .ref (a 30)), (1, .ref (a 35))]) hx hb d_R_groupRow_140 hl (k := 3) rfl rfl (by decide) rfl (fun ls hl => ?_)
                          refine lv_goto (tgt := 101) hx hb d_R_groupRow_143 (by decide) ?_
                          exact ih101 σ (x2 + 1) H locs ls hP hD hS (lv_sub hl [2, 3, 0] rfl) h
                        · replace h := it_f h hc
                          refine lv_iload_n hx hb d_R_groupRow_138 rfl (lv_at hl 0 rfl) ?_
                          exact rf_I (w := (fun z => wX true ca a z ++ tl)) h hx hb hr hlk hK hP hD hS d_R_groupRow_139
                      refine lv_if_ne (tgt := 127) hx hb d_R_groupRow_120 (by decide) (fun hc => ?_) (fun hc => ?_)
                      · replace h := it_f h hc
                        refine lv_aload_n hx hb d_R_groupRow_127 rfl (lv_at hl 0 rfl) ?_
                        refine lv_aload_n hx hb d_R_groupRow_128 rfl (lv_at hl 1 rfl) ?_
                        refine lv_iload_n hx hb d_R_groupRow_129 rfl (lv_at hl 2 rfl) ?_
                        obtain ⟨r9, s10, hr9, h⟩ := bd_some h
                        refine go_VI (rest := []) ⟨hx, hb, hml, hown, hB⟩ nwX_ok (c_R_aggregateRow l D ca a tl N σ s10 x2 r9 hr9) (cwx_V hB m_747 kw_R_aggregateRow ⟨by rw [hR]; decide, by rw [hR]; decide⟩ rfl rfl) (va_recv hK hP (ci := 8) (q0 := 30) rfl rfl) hN hK hP hD hS hA rfl hl.1 rfl (Nat.le_of_ble_eq_true rfl) d_R_groupRow_130 ⟨by rw [hR]; exact Nat.le_of_ble_eq_true rfl, by rw [hR]; exact Nat.le_of_ble_eq_true rfl⟩ (fun H locs hP hD hS => ?_)
                        exact L133 s10 x2 r9 H locs ls hP hD hS (lv_sub hl [0, 1, 2] rfl) h
                      · replace h := it_t h hc
                        refine lv_iconst (v := (0 : Int32)) hx hb d_R_groupRow_123 (by decide) ?_
                        refine lv_goto (tgt := 133) hx hb d_R_groupRow_124 (by decide) ?_
                        exact L133 σ x2 (0 : Int32) H locs ls hP hD hS (lv_sub hl [0, 1, 2] rfl) h
              refine lv_istore_n (lv' := [(2, .int (0 : Int32)), (0, .ref (a 30)), (1, .ref (a 35))]) hx hb d_R_groupRow_100 rfl hl (by decide) rfl (fun ls hl => ?_)
              exact L101 N s6 (0 : Int32) H locs ls hP hD hS (lv_sub hl [1, 2, 0] rfl) h
            · replace h := it_f h hc
              refine lv_aload_n hx hb d_R_groupRow_45 rfl (lv_at hl 0 rfl) ?_
              refine Xg_30_5 hx hb hB hown (hB _ m_369) hK hP d_R_groupRow_46 ?_
              refine lv_aload_n hx hb d_R_groupRow_49 rfl (lv_at hl 0 rfl) ?_
              refine Xg_30_2 hx hb hB hown (hB _ m_366) hK hP d_R_groupRow_50 ?_
              refine Xg_18_7 hx hb hB hown (hB _ m_223) hK hP d_R_groupRow_53 ?_
              refine lv_iload_n hx hb d_R_groupRow_56 rfl (lv_at hl 2 rfl) ?_
              obtain ⟨hi, h⟩ := ckb_some h
              refine Xa_22 hx hb hK hP hi d_R_groupRow_57 ?_
              refine lv_iconst (v := (0 : Int32)) hx hb d_R_groupRow_58 (by decide) ?_
              obtain ⟨r11, s12, hr11, h⟩ := bd_some h
              refine go_NI (rest := []) ⟨hx, hb, hml, hown, hB⟩ nwX_ok (c_V_value l D ca true a tl N 130 σ s12 (ga σ 16 (x2).toNatClampNeg) (0 : Int32) r11 hr11) (cwx_N hB hN (List.mem_of_getElem? (i := 0) rfl) kw_V_value ⟨by rw [hR]; decide, by rw [hR]; decide⟩ rfl rfl) (va_recv hK hP (ci := 4) (q0 := 33) rfl rfl) hN hK hP hD hS hA rfl hl.1 rfl (Nat.le_of_ble_eq_true rfl) d_R_groupRow_59 ⟨by rw [hR]; exact Nat.le_of_ble_eq_true rfl, by rw [hR]; exact Nat.le_of_ble_eq_true rfl⟩ (fun H locs hP hD hS => ?_)
              refine lv_istore_n (lv' := [(3, .int r11), (0, .ref (a 30)), (1, .ref (a 35)), (2, .int x2)]) hx hb d_R_groupRow_62 rfl hl (by decide) rfl (fun ls hl => ?_)
              refine lv_iload_n hx hb d_R_groupRow_63 rfl (lv_at hl 0 rfl) ?_
              refine lv_if_ge (tgt := 69) hx hb d_R_groupRow_64 (by decide) (fun hc => ?_) (fun hc => ?_)
              · replace h := it_t h hc
                refine lv_aload_n hx hb d_R_groupRow_69 rfl (lv_at hl 2 rfl) ?_
                refine lv_iload_n hx hb d_R_groupRow_70 rfl (lv_at hl 3 rfl) ?_
                refine lv_iload_n hx hb d_R_groupRow_71 rfl (lv_at hl 0 rfl) ?_
                refine lv_aload_n hx hb d_R_groupRow_72 rfl (lv_at hl 1 rfl) ?_
                refine Xg_30_5 hx hb hB hown (hB _ m_369) hK hP d_R_groupRow_73 ?_
                refine Xg_33_5 hx hb hB hown (hB _ m_347) hK hP d_R_groupRow_76 ?_
                obtain ⟨r13, s14, hr13, h⟩ := bd_some h
                cases r13
                refine go_VV (rest := []) ⟨hx, hb, hml, hown, hB⟩ nwX_ok (c_G_setKey l D ca a tl N s12 s14 x2 r11 (gl s12 0) hr13) (cwx_V hB m_735 kw_G_setKey ⟨by rw [hR]; decide, by rw [hR]; decide⟩ rfl rfl) (va_recv hK hP (ci := 6) (q0 := 35) rfl rfl) hN hK hP hD hS hA rfl hl.1 rfl (Nat.le_of_ble_eq_true rfl) d_R_groupRow_79 ⟨by rw [hR]; exact Nat.le_of_ble_eq_true rfl, by rw [hR]; exact Nat.le_of_ble_eq_true rfl⟩ (fun H locs hP hD hS => ?_)
                refine lv_iinc (v := (x2 + 1)) (lv' := [(2, .int (x2 + 1)), (3, .int r11), (0, .ref (a 30)), (1, .ref (a 35))]) hx hb d_R_groupRow_82 hl (k := 3) rfl rfl (by decide) rfl (fun ls hl => ?_)
                refine lv_goto (tgt := 34) hx hb d_R_groupRow_85 (by decide) ?_
                exact ih34 s14 (x2 + 1) H locs ls hP hD hS (lv_sub hl [2, 3, 0] rfl) h
              · replace h := it_f h hc
                refine lv_iload_n hx hb d_R_groupRow_67 rfl (lv_at hl 0 rfl) ?_
                exact rf_I (w := (fun z => wX true ca a z ++ tl)) h hx hb hr hlk hK hP hD hS d_R_groupRow_68
      refine lv_istore_n (lv' := [(2, .int (0 : Int32)), (1, .ref (a 35)), (0, .ref (a 30))]) hx hb d_R_groupRow_33 rfl hl (by decide) rfl (fun ls hl => ?_)
      exact L34 N s4 (0 : Int32) H locs ls hP hD hS (lv_sub hl [2, 1, 0] rfl) h
    · replace h := it_f h hc
      refine lv_iconst (v := (0 : Int32)) hx hb d_R_groupRow_19 (by decide) ?_
      exact rf_I (w := (fun z => wX true ca a z ++ tl)) h hx hb hr hlk hK hP hD hS d_R_groupRow_20
  | false =>
    replace h := it_f h (by decide)
    refine Xg_33_4f hx hb hB hown (hB _ m_344) hK hP d_R_groupRow_4 ?_
    refine lv_astore_nN (lv' := [(1, .null), (0, .ref (a 30))]) hx hb d_R_groupRow_7 rfl hl (by decide) rfl (fun ls hl => ?_)
    refine lv_aload_nN hx hb d_R_groupRow_8 rfl (lv_at hl 0 rfl) ?_
    refine lv_ifnullN (tgt := 19) hx hb d_R_groupRow_9 (by decide) ?_
    refine lv_iconst (v := (0 : Int32)) hx hb d_R_groupRow_19 (by decide) ?_
    exact rf_I (w := (fun z => wX false ca a z ++ tl)) h hx hb hr hlk hK hP hD hS d_R_groupRow_20
set_option maxRecDepth 100000 in
set_option maxHeartbeats 4000000 in
theorem c_R_takeRow (l : Launch) (D : va_G) (ca : Nat → ClassId) (g : Bool) (a : Nat → Nat) (tl : va_W) (N : Nat) (σ σ' : St) (r : Int32) (h : f_R_takeRow N g σ = some (r, σ')) : CtI l y_R_takeRow ws_R_takeRow rm_R_takeRow 0 0 D vCl (tyX ca) nwX [.ref (a 30)] (wX g ca a σ ++ tl) (wX g ca a σ' ++ tl) r := by
  refine en_I (ws' := BIG) (by decide +kernel) rfl (Nat.le_of_ble_eq_true rfl) ?_
  intro p e s m below meth c A ls R args H locs hR hx hb hr hlk hml hown hB hK hN hP hD hA hS hl
  have hl : lv_has ls 2 [(0, .ref (a 30))] := hl
  unfold f_R_takeRow at h
  refine lv_aload_n hx hb d_R_takeRow_0 rfl (lv_at hl 0 rfl) ?_
  refine Xg_30_2 hx hb hB hown (hB _ m_366) hK hP d_R_takeRow_1 ?_
  refine Xg_18_4 hx hb hB hown (hB _ m_210) hK hP d_R_takeRow_4 ?_
  refine lv_iconst (v := (-1 : Int32)) hx hb d_R_takeRow_7 (by decide) ?_
  have L30 : ∀ (σ : St) (t0 : Int32) (H : Heap) (locs : List Loc) (ls : Array Slot), va_P D vCl (wX g ca a σ ++ tl) H → va_D A (wX g ca a σ ++ tl) → va_S A s.heap H locs → lv_has ls 2 [(0, .ref (a 30))] → f_R_takeRow_30 N g σ t0 = some (r, σ') → W p l e R s m args below meth c H locs 0 0 (MQ below (qb_QI D vCl (tyX ca) (wX g ca a σ' ++ tl) A r) args s 0 0 A) (F0 m 30 ls [.int t0]) := by
    intro σ t0 H locs ls hP hD hS hl h
    unfold f_R_takeRow_30 at h
    refine lv_istore_n (lv' := [(1, .int t0), (0, .ref (a 30))]) hx hb d_R_takeRow_30 rfl hl (by decide) rfl (fun ls hl => ?_)
    refine lv_iload_n hx hb d_R_takeRow_31 rfl (lv_at hl 0 rfl) ?_
    refine lv_if_ge (tgt := 37) hx hb d_R_takeRow_32 (by decide) (fun hc => ?_) (fun hc => ?_)
    · replace h := it_t h hc
      refine lv_iload_n hx hb d_R_takeRow_37 rfl (lv_at hl 0 rfl) ?_
      refine lv_iconst (v := (1 : Int32)) hx hb d_R_takeRow_38 (by decide) ?_
      refine lv_icmp_eq (tgt := 44) hx hb d_R_takeRow_39 (by decide) (fun hc => ?_) (fun hc => ?_)
      · replace h := it_t h hc
        refine lv_aload_n hx hb d_R_takeRow_44 rfl (lv_at hl 1 rfl) ?_
        refine Xg_30_6 hx hb hB hown (hB _ m_370) hK hP d_R_takeRow_45 ?_
        refine lv_if_eq (tgt := 58) hx hb d_R_takeRow_48 (by decide) (fun hc => ?_) (fun hc => ?_)
        · replace h := it_t h hc
          refine lv_aload_n hx hb d_R_takeRow_58 rfl (lv_at hl 1 rfl) ?_
          obtain ⟨r1, s2, hr1, h⟩ := bd_some h
          refine go_VI (rest := []) ⟨hx, hb, hml, hown, hB⟩ nwX_ok (c_R_giveRow l D ca g a tl N σ s2 r1 hr1) (cwx_V hB m_774 kw_R_giveRow ⟨by rw [hR]; decide, by rw [hR]; decide⟩ rfl rfl) (va_recv hK hP (ci := 8) (q0 := 30) rfl rfl) hN hK hP hD hS hA rfl hl.1 rfl (Nat.le_of_ble_eq_true rfl) d_R_takeRow_59 ⟨by rw [hR]; exact Nat.le_of_ble_eq_true rfl, by rw [hR]; exact Nat.le_of_ble_eq_true rfl⟩ (fun H locs hP hD hS => ?_)
          exact rf_I (w := (fun z => wX g ca a z ++ tl)) h hx hb hr hlk hK hP hD hS d_R_takeRow_62
        · replace h := it_f h hc
          refine lv_aload_n hx hb d_R_takeRow_51 rfl (lv_at hl 1 rfl) ?_
          obtain ⟨r3, s4, hr3, h⟩ := bd_some h
          refine go_VI (rest := []) ⟨hx, hb, hml, hown, hB⟩ nwX_ok (c_R_groupRow l D ca g a tl N σ s4 r3 hr3) (cwx_V hB m_719 kw_R_groupRow ⟨by rw [hR]; decide, by rw [hR]; decide⟩ rfl rfl) (va_recv hK hP (ci := 8) (q0 := 30) rfl rfl) hN hK hP hD hS hA rfl hl.1 rfl (Nat.le_of_ble_eq_true rfl) d_R_takeRow_52 ⟨by rw [hR]; exact Nat.le_of_ble_eq_true rfl, by rw [hR]; exact Nat.le_of_ble_eq_true rfl⟩ (fun H locs hP hD hS => ?_)
          refine lv_goto (tgt := 62) hx hb d_R_takeRow_55 (by decide) ?_
          exact rf_I (w := (fun z => wX g ca a z ++ tl)) h hx hb hr hlk hK hP hD hS d_R_takeRow_62
      · replace h := it_f h hc
        refine lv_iconst (v := (0 : Int32)) hx hb d_R_takeRow_42 (by decide) ?_
        exact rf_I (w := (fun z => wX g ca a z ++ tl)) h hx hb hr hlk hK hP hD hS d_R_takeRow_43
    · replace h := it_f h hc
      refine lv_iload_n hx hb d_R_takeRow_35 rfl (lv_at hl 0 rfl) ?_
      exact rf_I (w := (fun z => wX g ca a z ++ tl)) h hx hb hr hlk hK hP hD hS d_R_takeRow_36
  refine lv_icmp_ne (tgt := 15) hx hb d_R_takeRow_8 (by decide) (fun hc => ?_) (fun hc => ?_)
  · replace h := it_f h hc
    refine lv_aload_n hx hb d_R_takeRow_15 rfl (lv_at hl 0 rfl) ?_
    refine Xg_30_5 hx hb hB hown (hB _ m_369) hK hP d_R_takeRow_16 ?_
    refine lv_aload_n hx hb d_R_takeRow_19 rfl (lv_at hl 0 rfl) ?_
    refine Xg_30_2 hx hb hB hown (hB _ m_366) hK hP d_R_takeRow_20 ?_
    refine Xg_18_4 hx hb hB hown (hB _ m_210) hK hP d_R_takeRow_23 ?_
    refine lv_iconst (v := (0 : Int32)) hx hb d_R_takeRow_26 (by decide) ?_
    obtain ⟨r5, s6, hr5, h⟩ := bd_some h
    refine go_NI (rest := []) ⟨hx, hb, hml, hown, hB⟩ nwX_ok (c_V_truth l D ca g a tl N 130 σ s6 (gi σ 4) (0 : Int32) r5 hr5) (cwx_N hB hN (List.mem_of_getElem? (i := 1) rfl) kw_V_truth ⟨by rw [hR]; decide, by rw [hR]; decide⟩ rfl rfl) (va_recv hK hP (ci := 4) (q0 := 33) rfl rfl) hN hK hP hD hS hA rfl hl.1 rfl (Nat.le_of_ble_eq_true rfl) d_R_takeRow_27 ⟨by rw [hR]; exact Nat.le_of_ble_eq_true rfl, by rw [hR]; exact Nat.le_of_ble_eq_true rfl⟩ (fun H locs hP hD hS => ?_)
    exact L30 s6 r5 H locs ls hP hD hS (lv_sub hl [0] rfl) h
  · replace h := it_t h hc
    refine lv_iconst (v := (1 : Int32)) hx hb d_R_takeRow_11 (by decide) ?_
    refine lv_goto (tgt := 30) hx hb d_R_takeRow_12 (by decide) ?_
    exact L30 σ (1 : Int32) H locs ls hP hD hS (lv_sub hl [0] rfl) h
set_option maxRecDepth 100000 in
set_option maxHeartbeats 4000000 in
theorem c_R_joinFrom_b (l : Launch) (D : va_G) (ca : Nat → ClassId) (g : Bool) (a : Nat → Nat) (tl : va_W) (N : Nat) (n : Nat) (RC : St → Int32 → Option (Int32 × St)) (HR : ∀ (σ σ' : St) (x1 : Int32) (r : Int32), RC σ x1 = some (r, σ') → CtI l y_R_joinFrom ws_R_joinFrom (rm_jf n) 0 0 D vCl (tyX ca) nwX [.ref (a 30), .int x1] (wX g ca a σ ++ tl) (wX g ca a σ' ++ tl) r) (σ σ' : St) (x1 : Int32) (r : Int32) (h : f_R_joinFrom_b N g RC σ x1 = some (r, σ')) : CtI l y_R_joinFrom ws_R_joinFrom (rm_jf (n + 1)) 0 0 D vCl (tyX ca) nwX [.ref (a 30), .int x1] (wX g ca a σ ++ tl) (wX g ca a σ' ++ tl) r := by
  refine en_I (ws' := BIG) (by decide +kernel) rfl (Nat.le_of_ble_eq_true rfl) ?_
  intro p e s m below meth c A ls R args H locs hR hx hb hr hlk hml hown hB hK hN hP hD hA hS hl
  have hl : lv_has ls 7 [(0, .ref (a 30)), (1, .int x1)] := hl
  unfold f_R_joinFrom_b at h
  refine lv_iload_n hx hb d_R_joinFrom_0 rfl (lv_at hl 1 rfl) ?_
  refine lv_aload_n hx hb d_R_joinFrom_1 rfl (lv_at hl 0 rfl) ?_
  refine Xg_30_2 hx hb hB hown (hB _ m_366) hK hP d_R_joinFrom_2 ?_
  refine Xg_18_0 hx hb hB hown (hB _ m_198) hK hP d_R_joinFrom_5 ?_
  refine lv_icmp_lt (tgt := 16) hx hb d_R_joinFrom_8 (by decide) (fun hc => ?_) (fun hc => ?_)
  · replace h := it_t h hc
    refine lv_aload_n hx hb d_R_joinFrom_16 rfl (lv_at hl 0 rfl) ?_
    refine Xg_30_0 hx hb hB hown (hB _ m_364) hK hP d_R_joinFrom_17 ?_
    refine Xg_1_2 hx hb hB hown (hB _ m_106) hK hP d_R_joinFrom_20 ?_
    refine lv_aload_n hx hb d_R_joinFrom_23 rfl (lv_at hl 0 rfl) ?_
    refine Xg_30_2 hx hb hB hown (hB _ m_366) hK hP d_R_joinFrom_24 ?_
    refine Xg_18_1 hx hb hB hown (hB _ m_201) hK hP d_R_joinFrom_27 ?_
    refine lv_iload_n hx hb d_R_joinFrom_30 rfl (lv_at hl 1 rfl) ?_
    obtain ⟨hi, h⟩ := ckb_some h
    refine Xa_19 hx hb hK hP hi d_R_joinFrom_31 ?_
    obtain ⟨hi, h⟩ := ckb_some h
    refine Xa_3 hx hb hK hP hi d_R_joinFrom_32 ?_
    refine lv_istore_n (lv' := [(2, .int (ga σ 1 ((ga σ 13 (x1).toNatClampNeg)).toNatClampNeg)), (0, .ref (a 30)), (1, .int x1)]) hx hb d_R_joinFrom_33 rfl hl (by decide) rfl (fun ls hl => ?_)
    refine lv_iconst (v := (0 : Int32)) hx hb d_R_joinFrom_34 (by decide) ?_
    refine lv_istore_n (lv' := [(3, .int (0 : Int32)), (2, .int (ga σ 1 ((ga σ 13 (x1).toNatClampNeg)).toNatClampNeg)), (0, .ref (a 30)), (1, .int x1)]) hx hb d_R_joinFrom_35 rfl hl (by decide) rfl (fun ls hl => ?_)
    refine lv_iconst (v := (0 : Int32)) hx hb d_R_joinFrom_36 (by decide) ?_
    have L39 : ∀ (n : Nat) (σ : St) (x1 : Int32) (x2 : Int32) (x3 : Int32) (x4 : Int32) (H : Heap) (locs : List Loc) (ls : Array Slot), va_P D vCl (wX g ca a σ ++ tl) H → va_D A (wX g ca a σ ++ tl) → va_S A s.heap H locs → lv_has ls 7 [(0, .ref (a 30)), (1, .int x1), (2, .int x2), (3, .int x3), (4, .int x4)] → f_R_joinFrom_39 N g RC n σ x1 x2 x3 x4 = some (r, σ') → W p l e R s m args below meth c H locs 0 0 (MQ below (qb_QI D vCl (tyX ca) (wX g ca a σ' ++ tl) A r) args s 0 0 A) (F0 m 39 ls []) := by
      intro n
      induction n with
      | zero => intro σ x1 x2 x3 x4 H locs ls hP hD hS hl h; cases h
      | succ n ih39 =>
          intro σ x1 x2 x3 x4 H locs ls hP hD hS hl h
          obtain ⟨K39, eK39⟩ : ∃ K, K = f_R_joinFrom_39 N g RC n := ⟨_, rfl⟩
          rw [← eK39] at ih39
          replace h : f_R_joinFrom_39_b N g RC K39 σ x1 x2 x3 x4 = some (r, σ') := by rw [eK39]; exact h
          unfold f_R_joinFrom_39_b at h
          refine lv_iload hx hb d_R_joinFrom_39 (lv_at hl 4 rfl) ?_
          refine lv_iload_n hx hb d_R_joinFrom_41 rfl (lv_at hl 2 rfl) ?_
          refine lv_icmp_ge (tgt := 130) hx hb d_R_joinFrom_42 (by decide) (fun hc => ?_) (fun hc => ?_)
          · replace h := it_t h hc
            refine lv_iload_n hx hb d_R_joinFrom_130 rfl (lv_at hl 3 rfl) ?_
            refine lv_if_ne (tgt := 147) hx hb d_R_joinFrom_131 (by decide) (fun hc => ?_) (fun hc => ?_)
            · replace h := it_f h hc
              refine lv_iconst (v := (0 : Int32)) hx hb d_R_joinFrom_147 (by decide) ?_
              exact rf_I (w := (fun z => wX g ca a z ++ tl)) h hx hb hr hlk hK hP hD hS d_R_joinFrom_148
            · replace h := it_t h hc
              refine lv_aload_n hx hb d_R_joinFrom_134 rfl (lv_at hl 0 rfl) ?_
              refine Xg_30_2 hx hb hB hown (hB _ m_366) hK hP d_R_joinFrom_135 ?_
              refine Xg_18_2 hx hb hB hown (hB _ m_205) hK hP d_R_joinFrom_138 ?_
              refine lv_iload_n hx hb d_R_joinFrom_141 rfl (lv_at hl 1 rfl) ?_
              obtain ⟨hi, h⟩ := ckb_some h
              refine Xa_20 hx hb hK hP hi d_R_joinFrom_142 ?_
              refine lv_iconst (v := (2 : Int32)) hx hb d_R_joinFrom_143 (by decide) ?_
              refine lv_icmp_eq (tgt := 149) hx hb d_R_joinFrom_144 (by decide) (fun hc => ?_) (fun hc => ?_)
              · replace h := it_t h hc
                refine lv_aload_n hx hb d_R_joinFrom_149 rfl (lv_at hl 0 rfl) ?_
                refine Xg_30_5 hx hb hB hown (hB _ m_369) hK hP d_R_joinFrom_150 ?_
                refine Xg_33_3 hx hb hB hown (hB _ m_343) hK hP d_R_joinFrom_153 ?_
                refine lv_iload_n hx hb d_R_joinFrom_156 rfl (lv_at hl 1 rfl) ?_
                refine lv_iconst (v := (-1 : Int32)) hx hb d_R_joinFrom_157 (by decide) ?_
                obtain ⟨hi, h⟩ := ckb_some h
                obtain ⟨s1, es1, h⟩ := nm_some h
                refine Xs_34 es1 hx hb hK hP hD hS hi d_R_joinFrom_158 (fun H locs hP hD hS => ?_)
                refine lv_aload_n hx hb d_R_joinFrom_159 rfl (lv_at hl 0 rfl) ?_
                refine lv_iload_n hx hb d_R_joinFrom_160 rfl (lv_at hl 1 rfl) ?_
                refine lv_iconst (v := (1 : Int32)) hx hb d_R_joinFrom_161 (by decide) ?_
                refine lv_iadd hx hb d_R_joinFrom_162 ?_
                obtain ⟨r2, s3, hr2, h⟩ := bd_some h
                refine go_VI (rest := []) ⟨hx, hb, hml, hown, hB⟩ nwX_ok (HR s1 s3 (x1 + (1 : Int32)) r2 hr2) (cwx_V hB m_794 kw_R_joinFrom ⟨by rw [hR]; simp only [rm_jf]; omega, by rw [hR]; simp only [rm_jf]; omega⟩ rfl rfl) (va_recv hK hP (ci := 8) (q0 := 30) rfl rfl) hN hK hP hD hS hA rfl hl.1 rfl (Nat.le_of_ble_eq_true rfl) d_R_joinFrom_163 ⟨by rw [hR]; exact Nat.le_of_ble_eq_true rfl, by rw [hR]; exact Nat.le_of_ble_eq_true rfl⟩ (fun H locs hP hD hS => ?_)
                exact rf_I (w := (fun z => wX g ca a z ++ tl)) h hx hb hr hlk hK hP hD hS d_R_joinFrom_166
              · replace h := it_f h hc
                refine lv_iconst (v := (0 : Int32)) hx hb d_R_joinFrom_147 (by decide) ?_
                exact rf_I (w := (fun z => wX g ca a z ++ tl)) h hx hb hr hlk hK hP hD hS d_R_joinFrom_148
          · replace h := it_f h hc
            refine lv_aload_n hx hb d_R_joinFrom_45 rfl (lv_at hl 0 rfl) ?_
            refine Xg_30_5 hx hb hB hown (hB _ m_369) hK hP d_R_joinFrom_46 ?_
            refine Xg_33_3 hx hb hB hown (hB _ m_343) hK hP d_R_joinFrom_49 ?_
            refine lv_iload_n hx hb d_R_joinFrom_52 rfl (lv_at hl 1 rfl) ?_
            refine lv_iload hx hb d_R_joinFrom_53 (lv_at hl 4 rfl) ?_
            obtain ⟨hi, h⟩ := ckb_some h
            obtain ⟨s4, es4, h⟩ := nm_some h
            refine Xs_34 es4 hx hb hK hP hD hS hi d_R_joinFrom_55 (fun H locs hP hD hS => ?_)
            refine lv_aload_n hx hb d_R_joinFrom_56 rfl (lv_at hl 0 rfl) ?_
            refine Xg_30_2 hx hb hB hown (hB _ m_366) hK hP d_R_joinFrom_57 ?_
            refine Xg_18_2 hx hb hB hown (hB _ m_205) hK hP d_R_joinFrom_60 ?_
            refine lv_iload_n hx hb d_R_joinFrom_63 rfl (lv_at hl 1 rfl) ?_
            obtain ⟨hi, h⟩ := ckb_some h
            refine Xa_20 hx hb hK hP hi d_R_joinFrom_64 ?_
            have L89 : ∀ (σ : St) (x1 : Int32) (x2 : Int32) (x3 : Int32) (x4 : Int32) (t0 : Int32) (H : Heap) (locs : List Loc) (ls : Array Slot), va_P D vCl (wX g ca a σ ++ tl) H → va_D A (wX g ca a σ ++ tl) → va_S A s.heap H locs → lv_has ls 7 [(0, .ref (a 30)), (1, .int x1), (2, .int x2), (3, .int x3), (4, .int x4)] → f_R_joinFrom_89 N g RC K39 σ x1 x2 x3 x4 t0 = some (r, σ') → W p l e R s m args below meth c H locs 0 0 (MQ below (qb_QI D vCl (tyX ca) (wX g ca a σ' ++ tl) A r) args s 0 0 A) (F0 m 89 ls [.int t0]) := by
              intro σ x1 x2 x3 x4 t0 H locs ls hP hD hS hl h
              unfold f_R_joinFrom_89 at h
              refine lv_istore (lv' := [(5, .int t0), (0, .ref (a 30)), (1, .int x1), (2, .int x2), (3, .int x3), (4, .int x4)]) hx hb d_R_joinFrom_89 hl (by decide) rfl (fun ls hl => ?_)
              refine lv_iload hx hb d_R_joinFrom_91 (lv_at hl 0 rfl) ?_
              refine lv_if_ge (tgt := 99) hx hb d_R_joinFrom_93 (by decide) (fun hc => ?_) (fun hc => ?_)
              · replace h := it_t h hc
                refine lv_iload hx hb d_R_joinFrom_99 (lv_at hl 0 rfl) ?_
                refine lv_iconst (v := (1 : Int32)) hx hb d_R_joinFrom_101 (by decide) ?_
                refine lv_icmp_ne (tgt := 124) hx hb d_R_joinFrom_102 (by decide) (fun hc => ?_) (fun hc => ?_)
                · replace h := it_f h hc
                  refine lv_iinc (v := (x4 + 1)) (lv' := [(4, .int (x4 + 1)), (5, .int t0), (0, .ref (a 30)), (1, .int x1), (2, .int x2), (3, .int x3)]) hx hb d_R_joinFrom_124 hl (k := 5) rfl rfl (by decide) rfl (fun ls hl => ?_)
                  refine lv_goto (tgt := 39) hx hb d_R_joinFrom_127 (by decide) ?_
                  exact ih39 σ x1 x2 x3 (x4 + 1) H locs ls hP hD hS (lv_sub hl [2, 3, 4, 5, 0] rfl) h
                · replace h := it_t h hc
                  refine lv_iconst (v := (1 : Int32)) hx hb d_R_joinFrom_105 (by decide) ?_
                  refine lv_istore_n (lv' := [(3, .int (1 : Int32)), (5, .int t0), (0, .ref (a 30)), (1, .int x1), (2, .int x2), (4, .int x4)]) hx hb d_R_joinFrom_106 rfl hl (by decide) rfl (fun ls hl => ?_)
                  refine lv_aload_n hx hb d_R_joinFrom_107 rfl (lv_at hl 2 rfl) ?_
                  refine lv_iload_n hx hb d_R_joinFrom_108 rfl (lv_at hl 3 rfl) ?_
                  refine lv_iconst (v := (1 : Int32)) hx hb d_R_joinFrom_109 (by decide) ?_
                  refine lv_iadd hx hb d_R_joinFrom_110 ?_
                  obtain ⟨r5, s6, hr5, h⟩ := bd_some h
                  refine go_VI (rest := []) ⟨hx, hb, hml, hown, hB⟩ nwX_ok (HR σ s6 (x1 + (1 : Int32)) r5 hr5) (cwx_V hB m_794 kw_R_joinFrom ⟨by rw [hR]; simp only [rm_jf]; omega, by rw [hR]; simp only [rm_jf]; omega⟩ rfl rfl) (va_recv hK hP (ci := 8) (q0 := 30) rfl rfl) hN hK hP hD hS hA rfl hl.1 rfl (Nat.le_of_ble_eq_true rfl) d_R_joinFrom_111 ⟨by rw [hR]; exact Nat.le_of_ble_eq_true rfl, by rw [hR]; exact Nat.le_of_ble_eq_true rfl⟩ (fun H locs hP hD hS => ?_)
                  refine lv_istore (lv' := [(6, .int r5), (3, .int (1 : Int32)), (5, .int t0), (0, .ref (a 30)), (1, .int x1), (2, .int x2), (4, .int x4)]) hx hb d_R_joinFrom_114 hl (by decide) rfl (fun ls hl => ?_)
                  refine lv_iload hx hb d_R_joinFrom_116 (lv_at hl 0 rfl) ?_
                  refine lv_if_eq (tgt := 124) hx hb d_R_joinFrom_118 (by decide) (fun hc => ?_) (fun hc => ?_)
                  · replace h := it_t h hc
                    refine lv_iinc (v := (x4 + 1)) (lv' := [(4, .int (x4 + 1)), (6, .int r5), (3, .int (1 : Int32)), (5, .int t0), (0, .ref (a 30)), (1, .int x1), (2, .int x2)]) hx hb d_R_joinFrom_124 hl (k := 6) rfl rfl (by decide) rfl (fun ls hl => ?_)
                    refine lv_goto (tgt := 39) hx hb d_R_joinFrom_127 (by decide) ?_
                    exact ih39 s6 x1 x2 (1 : Int32) (x4 + 1) H locs ls hP hD hS (lv_sub hl [4, 5, 6, 2, 0] rfl) h
                  · replace h := it_f h hc
                    refine lv_iload hx hb d_R_joinFrom_121 (lv_at hl 0 rfl) ?_
                    exact rf_I (w := (fun z => wX g ca a z ++ tl)) h hx hb hr hlk hK hP hD hS d_R_joinFrom_123
              · replace h := it_f h hc
                refine lv_iload hx hb d_R_joinFrom_96 (lv_at hl 0 rfl) ?_
                exact rf_I (w := (fun z => wX g ca a z ++ tl)) h hx hb hr hlk hK hP hD hS d_R_joinFrom_98
            refine lv_if_ne (tgt := 72) hx hb d_R_joinFrom_65 (by decide) (fun hc => ?_) (fun hc => ?_)
            · replace h := it_f h hc
              refine lv_aload_n hx hb d_R_joinFrom_72 rfl (lv_at hl 0 rfl) ?_
              refine Xg_30_5 hx hb hB hown (hB _ m_369) hK hP d_R_joinFrom_73 ?_
              refine lv_aload_n hx hb d_R_joinFrom_76 rfl (lv_at hl 0 rfl) ?_
              refine Xg_30_2 hx hb hB hown (hB _ m_366) hK hP d_R_joinFrom_77 ?_
              refine Xg_18_3 hx hb hB hown (hB _ m_207) hK hP d_R_joinFrom_80 ?_
              refine lv_iload_n hx hb d_R_joinFrom_83 rfl (lv_at hl 1 rfl) ?_
              obtain ⟨hi, h⟩ := ckb_some h
              refine Xa_21 hx hb hK hP hi d_R_joinFrom_84 ?_
              refine lv_iconst (v := (0 : Int32)) hx hb d_R_joinFrom_85 (by decide) ?_
              obtain ⟨r7, s8, hr7, h⟩ := bd_some h
              refine go_NI (rest := []) ⟨hx, hb, hml, hown, hB⟩ nwX_ok (c_V_truth l D ca g a tl N 130 s4 s8 (ga s4 15 (x1).toNatClampNeg) (0 : Int32) r7 hr7) (cwx_N hB hN (List.mem_of_getElem? (i := 1) rfl) kw_V_truth ⟨by rw [hR]; simp only [rm_jf, rm_ev]; omega, by rw [hR]; simp only [rm_jf, rm_ev]; omega⟩ rfl rfl) (va_recv hK hP (ci := 4) (q0 := 33) rfl rfl) hN hK hP hD hS hA rfl hl.1 rfl (Nat.le_of_ble_eq_true rfl) d_R_joinFrom_86 ⟨by rw [hR]; exact Nat.le_of_ble_eq_true rfl, by rw [hR]; exact Nat.le_of_ble_eq_true rfl⟩ (fun H locs hP hD hS => ?_)
              exact L89 s8 x1 x2 x3 x4 r7 H locs ls hP hD hS (lv_sub hl [0, 1, 2, 3, 4] rfl) h
            · replace h := it_t h hc
              refine lv_iconst (v := (1 : Int32)) hx hb d_R_joinFrom_68 (by decide) ?_
              refine lv_goto (tgt := 89) hx hb d_R_joinFrom_69 (by decide) ?_
              exact L89 s4 x1 x2 x3 x4 (1 : Int32) H locs ls hP hD hS (lv_sub hl [0, 1, 2, 3, 4] rfl) h
    refine lv_istore (lv' := [(4, .int (0 : Int32)), (3, .int (0 : Int32)), (2, .int (ga σ 1 ((ga σ 13 (x1).toNatClampNeg)).toNatClampNeg)), (0, .ref (a 30)), (1, .int x1)]) hx hb d_R_joinFrom_37 hl (by decide) rfl (fun ls hl => ?_)
    exact L39 N σ x1 (ga σ 1 ((ga σ 13 (x1).toNatClampNeg)).toNatClampNeg) (0 : Int32) (0 : Int32) H locs ls hP hD hS (lv_sub hl [3, 4, 2, 1, 0] rfl) h
  · replace h := it_f h hc
    refine lv_aload_n hx hb d_R_joinFrom_11 rfl (lv_at hl 0 rfl) ?_
    obtain ⟨r9, s10, hr9, h⟩ := bd_some h
    refine go_VI (rest := []) ⟨hx, hb, hml, hown, hB⟩ nwX_ok (c_R_takeRow l D ca g a tl N σ s10 r9 hr9) (cwx_V hB m_672 kw_R_takeRow ⟨by rw [hR]; simp only [rm_jf, rm_R_takeRow]; omega, by rw [hR]; simp only [rm_jf, rm_R_takeRow]; omega⟩ rfl rfl) (va_recv hK hP (ci := 8) (q0 := 30) rfl rfl) hN hK hP hD hS hA rfl hl.1 rfl (Nat.le_of_ble_eq_true rfl) d_R_joinFrom_12 ⟨by rw [hR]; exact Nat.le_of_ble_eq_true rfl, by rw [hR]; exact Nat.le_of_ble_eq_true rfl⟩ (fun H locs hP hD hS => ?_)
    exact rf_I (w := (fun z => wX g ca a z ++ tl)) h hx hb hr hlk hK hP hD hS d_R_joinFrom_15
set_option maxRecDepth 100000 in
set_option maxHeartbeats 4000000 in
theorem c_jf (l : Launch) (D : va_G) (ca : Nat → ClassId) (g : Bool) (a : Nat → Nat) (tl : va_W) (N : Nat) : ∀ n : Nat, (∀ (σ σ' : St) (x1 : Int32) (r : Int32), f_jf N g n σ x1 = some (r, σ') → CtI l y_R_joinFrom ws_R_joinFrom (rm_jf n) 0 0 D vCl (tyX ca) nwX [.ref (a 30), .int x1] (wX g ca a σ ++ tl) (wX g ca a σ' ++ tl) r) := by
  intro n
  induction n with
  | zero => exact fun σ σ' x1 r h => (by cases h)
  | succ n ih =>
    exact fun σ σ' x1 r h => c_R_joinFrom_b l D ca g a tl N n (f_jf N g n) ih σ σ' x1 r h
theorem c_R_joinFrom (l : Launch) (D : va_G) (ca : Nat → ClassId) (g : Bool) (a : Nat → Nat) (tl : va_W) (N : Nat) (n : Nat) (σ σ' : St) (x1 : Int32) (r : Int32) (h : f_jf N g n σ x1 = some (r, σ')) : CtI l y_R_joinFrom ws_R_joinFrom (rm_jf n) 0 0 D vCl (tyX ca) nwX [.ref (a 30), .int x1] (wX g ca a σ ++ tl) (wX g ca a σ' ++ tl) r := (c_jf l D ca g a tl N n) σ σ' x1 r h
