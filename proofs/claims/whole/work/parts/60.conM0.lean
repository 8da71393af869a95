set_option maxRecDepth 100000 in
set_option maxHeartbeats 4000000 in
theorem c_M_within (l : Launch) (D : va_G) (ca : Nat → ClassId) (g : Bool) (a : Nat → Nat) (tl : va_W) (N : Nat) (σ σ' : St) (x0 : Int64) (x2 : Int64) (x4 : Int64) (r : Int32) (h : f_M_within N σ x0 x2 x4 = some (r, σ')) : CtI l y_M_within ws_M_within rm_M_within 0 0 D vCl (tyM ca) nwM [.long x0, .long x2, .long x4] (wM g ca a σ ++ tl) (wM g ca a σ' ++ tl) r := by
  refine en_Z (ws' := BIG) (by decide +kernel) rfl (Nat.le_of_ble_eq_true rfl) ?_
  intro p e s m below meth c A ls R args H locs hR hx hb hr hlk hml hown hB hK hN hP hD hA hS hl
  have hl : lv_has ls 6 [(0, .long x0), (2, .long x2), (4, .long x4)] := hl
  unfold f_M_within at h
  refine lv_lload_n hx hb d_M_within_0 rfl (lv_at hl 0 rfl) ?_
  refine lv_lload_n hx hb d_M_within_1 rfl (lv_at hl 1 rfl) ?_
  refine W.lcmp hx hb d_M_within_2 ?_
  refine lv_if_lt (tgt := 17) hx hb d_M_within_3 (by decide) (fun hc => ?_) (fun hc => ?_)
  · replace h := it_t h hc
    refine lv_iconst (v := (0 : Int32)) hx hb d_M_within_17 (by decide) ?_
    exact rf_Z (w := (fun z => wM g ca a z ++ tl)) h hx hb hr hlk hK hP hD hS rfl d_M_within_18
  · replace h := it_f h hc
    refine lv_lload_n hx hb d_M_within_6 rfl (lv_at hl 0 rfl) ?_
    refine lv_lload hx hb d_M_within_7 (lv_at hl 2 rfl) ?_
    refine W.lcmp hx hb d_M_within_9 ?_
    refine lv_if_gt (tgt := 17) hx hb d_M_within_10 (by decide) (fun hc => ?_) (fun hc => ?_)
    · replace h := it_t h hc
      refine lv_iconst (v := (0 : Int32)) hx hb d_M_within_17 (by decide) ?_
      exact rf_Z (w := (fun z => wM g ca a z ++ tl)) h hx hb hr hlk hK hP hD hS rfl d_M_within_18
    · replace h := it_f h hc
      refine lv_iconst (v := (1 : Int32)) hx hb d_M_within_13 (by decide) ?_
      refine lv_goto (tgt := 18) hx hb d_M_within_14 (by decide) ?_
      exact rf_Z (w := (fun z => wM g ca a z ++ tl)) h hx hb hr hlk hK hP hD hS rfl d_M_within_18
set_option maxRecDepth 100000 in
set_option maxHeartbeats 4000000 in
theorem c_M_table (l : Launch) (D : va_G) (ca : Nat → ClassId) (g : Bool) (a : Nat → Nat) (tl : va_W) (N : Nat) (σ σ' : St) (x1 : Int32) (r : Int32) (h : f_M_table N σ x1 = some (r, σ')) : CtI l y_M_table ws_M_table rm_M_table 0 0 D vCl (tyM ca) nwM [.ref (a 0), .int x1] (wM g ca a σ ++ tl) (wM g ca a σ' ++ tl) r := by
  refine en_I (ws' := BIG) (by decide +kernel) rfl (Nat.le_of_ble_eq_true rfl) ?_
  intro p e s m below meth c A ls R args H locs hR hx hb hr hlk hml hown hB hK hN hP hD hA hS hl
  have hl : lv_has ls 2 [(0, .ref (a 0)), (1, .int x1)] := hl
  unfold f_M_table at h
  refine lv_iload_n hx hb d_M_table_0 rfl (lv_at hl 1 rfl) ?_
  refine lv_i2l hx hb d_M_table_1 rfl ?_
  refine lv_lconst (v := (1 : Int64)) hx hb d_M_table_2 (by decide) ?_
  refine lv_ldc2 (v := (4 : Int64)) hx hb hown (hB _ m_1031) d_M_table_3 ?_
  obtain ⟨r1, s2, hr1, h⟩ := bd_some h
  refine go_SI (rest := []) ⟨hx, hb, hml, hown, hB⟩ nwM_ok (c_M_within l D ca g a tl N σ s2 (x1).toInt64 (1 : Int64) (4 : Int64) r1 hr1) (cwx_S hB m_1032 kw_M_within ⟨by rw [hR]; decide, by rw [hR]; decide⟩ rfl rfl) hN hK hP hD hS hA rfl hl.1 rfl (Nat.le_of_ble_eq_true rfl) d_M_table_6 ⟨by rw [hR]; exact Nat.le_of_ble_eq_true rfl, by rw [hR]; exact Nat.le_of_ble_eq_true rfl⟩ (fun H locs hP hD hS => ?_)
  refine lv_if_ne (tgt := 15) hx hb d_M_table_9 (by decide) (fun hc => ?_) (fun hc => ?_)
  · replace h := it_f h hc
    refine lv_aload_n hx hb d_M_table_15 rfl (lv_at hl 0 rfl) ?_
    refine Mg_0_0 hx hb hB hown (hB _ m_861) hK hP d_M_table_16 ?_
    refine lv_bipush (v := (6 : Int32)) hx hb d_M_table_19 (by decide) ?_
    refine lv_icmp_ne (tgt := 27) hx hb d_M_table_21 (by decide) (fun hc => ?_) (fun hc => ?_)
    · replace h := it_f h hc
      refine lv_aload_n hx hb d_M_table_27 rfl (lv_at hl 0 rfl) ?_
      refine Mg_0_1 hx hb hB hown (hB _ m_862) hK hP d_M_table_28 ?_
      refine lv_aload_n hx hb d_M_table_31 rfl (lv_at hl 0 rfl) ?_
      refine Mg_0_0 hx hb hB hown (hB _ m_861) hK hP d_M_table_32 ?_
      refine lv_iload_n hx hb d_M_table_35 rfl (lv_at hl 1 rfl) ?_
      obtain ⟨hi, h⟩ := ckb_some h
      obtain ⟨s3, es3, h⟩ := nm_some h
      refine Ms_1 es3 hx hb hK hP hD hS hi d_M_table_36 (fun H locs hP hD hS => ?_)
      refine lv_aload_n hx hb d_M_table_37 rfl (lv_at hl 0 rfl) ?_
      refine Mg_0_2 hx hb hB hown (hB _ m_863) hK hP d_M_table_38 ?_
      refine lv_aload_n hx hb d_M_table_41 rfl (lv_at hl 0 rfl) ?_
      refine Mg_0_0 hx hb hB hown (hB _ m_861) hK hP d_M_table_42 ?_
      refine lv_iconst (v := (0 : Int32)) hx hb d_M_table_45 (by decide) ?_
      obtain ⟨hi, h⟩ := ckb_some h
      obtain ⟨s4, es4, h⟩ := nm_some h
      refine Ms_2 es4 hx hb hK hP hD hS hi d_M_table_46 (fun H locs hP hD hS => ?_)
      refine lv_aload_n hx hb d_M_table_47 rfl (lv_at hl 0 rfl) ?_
      refine lv_dup hx hb d_M_table_48 rfl ?_
      refine Mg_0_0 hx hb hB hown (hB _ m_861) hK hP d_M_table_49 ?_
      refine lv_iconst (v := (1 : Int32)) hx hb d_M_table_52 (by decide) ?_
      refine lv_iadd hx hb d_M_table_53 ?_
      obtain ⟨s5, es5, h⟩ := nm_some h
      refine Mp_0_0 es5 hx hb hB hown (hB _ m_861) hK hP hD hS d_M_table_54 (fun H locs hP hD hS => ?_)
      refine lv_aload_n hx hb d_M_table_57 rfl (lv_at hl 0 rfl) ?_
      refine Mg_0_0 hx hb hB hown (hB _ m_861) hK hP d_M_table_58 ?_
      refine lv_iconst (v := (1 : Int32)) hx hb d_M_table_61 (by decide) ?_
      refine lv_isub hx hb d_M_table_62 ?_
      exact rf_I (w := (fun z => wM g ca a z ++ tl)) h hx hb hr hlk hK hP hD hS d_M_table_63
    · replace h := it_t h hc
      refine lv_bipush (v := (-104 : Int32)) hx hb d_M_table_24 (by decide) ?_
      exact rf_I (w := (fun z => wM g ca a z ++ tl)) h hx hb hr hlk hK hP hD hS d_M_table_26
  · replace h := it_t h hc
    refine lv_bipush (v := (-102 : Int32)) hx hb d_M_table_12 (by decide) ?_
    exact rf_I (w := (fun z => wM g ca a z ++ tl)) h hx hb hr hlk hK hP hD hS d_M_table_14
set_option maxRecDepth 100000 in
set_option maxHeartbeats 4000000 in
theorem c_M_insert (l : Launch) (D : va_G) (ca : Nat → ClassId) (g : Bool) (a : Nat → Nat) (tl : va_W) (N : Nat) (σ σ' : St) (x1 : Int32) (x2 : Int64) (x4 : Int64) (x6 : Int64) (x8 : Int64) (x10 : Int32) (r : Int32) (h : f_M_insert N σ x1 x2 x4 x6 x8 x10 = some (r, σ')) : CtI l y_M_insert ws_M_insert rm_M_insert 0 0 D vCl (tyM ca) nwM [.ref (a 0), .int x1, .long x2, .long x4, .long x6, .long x8, .int x10] (wM g ca a σ ++ tl) (wM g ca a σ' ++ tl) r := by
  refine en_I (ws' := BIG) (by decide +kernel) rfl (Nat.le_of_ble_eq_true rfl) ?_
  intro p e s m below meth c A ls R args H locs hR hx hb hr hlk hml hown hB hK hN hP hD hA hS hl
  have hl : lv_has ls 15 [(0, .ref (a 0)), (1, .int x1), (2, .long x2), (4, .long x4), (6, .long x6), (8, .long x8), (10, .int x10)] := hl
  unfold f_M_insert at h
  refine lv_iload_n hx hb d_M_insert_0 rfl (lv_at hl 1 rfl) ?_
  refine lv_i2l hx hb d_M_insert_1 rfl ?_
  refine lv_lconst (v := (0 : Int64)) hx hb d_M_insert_2 (by decide) ?_
  refine lv_aload_n hx hb d_M_insert_3 rfl (lv_at hl 0 rfl) ?_
  refine Mg_0_0 hx hb hB hown (hB _ m_861) hK hP d_M_insert_4 ?_
  refine lv_iconst (v := (1 : Int32)) hx hb d_M_insert_7 (by decide) ?_
  refine lv_isub hx hb d_M_insert_8 ?_
  refine lv_i2l hx hb d_M_insert_9 rfl ?_
  obtain ⟨r1, s2, hr1, h⟩ := bd_some h
  refine go_SI (rest := []) ⟨hx, hb, hml, hown, hB⟩ nwM_ok (c_M_within l D ca g a tl N σ s2 (x1).toInt64 (0 : Int64) (((gi σ 0) - (1 : Int32))).toInt64 r1 hr1) (cwx_S hB m_1032 kw_M_within ⟨by rw [hR]; decide, by rw [hR]; decide⟩ rfl rfl) hN hK hP hD hS hA rfl hl.1 rfl (Nat.le_of_ble_eq_true rfl) d_M_insert_10 ⟨by rw [hR]; exact Nat.le_of_ble_eq_true rfl, by rw [hR]; exact Nat.le_of_ble_eq_true rfl⟩ (fun H locs hP hD hS => ?_)
  refine lv_if_ne (tgt := 19) hx hb d_M_insert_13 (by decide) (fun hc => ?_) (fun hc => ?_)
  · replace h := it_f h hc
    refine lv_iconst (v := (1 : Int32)) hx hb d_M_insert_19 (by decide) ?_
    refine lv_istore (lv' := [(11, .int (1 : Int32)), (0, .ref (a 0)), (1, .int x1), (2, .long x2), (4, .long x4), (6, .long x6), (8, .long x8), (10, .int x10)]) hx hb d_M_insert_20 hl (by decide) rfl (fun ls hl => ?_)
    refine lv_iconst (v := (0 : Int32)) hx hb d_M_insert_22 (by decide) ?_
    have L25 : ∀ (n : Nat) (σ : St) (x1 : Int32) (x2 : Int64) (x4 : Int64) (x6 : Int64) (x8 : Int64) (x10 : Int32) (x11 : Int32) (x12 : Int32) (H : Heap) (locs : List Loc) (ls : Array Slot), va_P D vCl (wM g ca a σ ++ tl) H → va_D A (wM g ca a σ ++ tl) → va_S A s.heap H locs → lv_has ls 15 [(0, .ref (a 0)), (1, .int x1), (2, .long x2), (4, .long x4), (6, .long x6), (8, .long x8), (10, .int x10), (11, .int x11), (12, .int x12)] → f_M_insert_25 N n σ x1 x2 x4 x6 x8 x10 x11 x12 = some (r, σ') → W p l e R s m args below meth c H locs 0 0 (MQ below (qb_QI D vCl (tyM ca) (wM g ca a σ' ++ tl) A r) args s 0 0 A) (F0 m 25 ls []) := by
      intro n
      induction n with
      | zero => intro σ x1 x2 x4 x6 x8 x10 x11 x12 H locs ls hP hD hS hl h; cases h
      | succ n ih25 =>
          intro σ x1 x2 x4 x6 x8 x10 x11 x12 H locs ls hP hD hS hl h
          obtain ⟨K25, eK25⟩ : ∃ K, K = f_M_insert_25 N n := ⟨_, rfl⟩
          rw [← eK25] at ih25
          replace h : f_M_insert_25_b N K25 σ x1 x2 x4 x6 x8 x10 x11 x12 = some (r, σ') := by rw [eK25]; exact h
          unfold f_M_insert_25_b at h
          refine lv_iload hx hb d_M_insert_25 (lv_at hl 8 rfl) ?_
          refine lv_aload_n hx hb d_M_insert_27 rfl (lv_at hl 0 rfl) ?_
          refine Mg_0_1 hx hb hB hown (hB _ m_862) hK hP d_M_insert_28 ?_
          refine lv_iload_n hx hb d_M_insert_31 rfl (lv_at hl 1 rfl) ?_
          obtain ⟨hi, h⟩ := ckb_some h
          refine Ma_1 hx hb hK hP hi d_M_insert_32 ?_
          refine lv_icmp_ge (tgt := 114) hx hb d_M_insert_33 (by decide) (fun hc => ?_) (fun hc => ?_)
          · replace h := it_t h hc
            refine lv_iload hx hb d_M_insert_114 (lv_at hl 7 rfl) ?_
            refine lv_if_ne (tgt := 122) hx hb d_M_insert_116 (by decide) (fun hc => ?_) (fun hc => ?_)
            · replace h := it_f h hc
              refine lv_aload_n hx hb d_M_insert_122 rfl (lv_at hl 0 rfl) ?_
              refine Mg_0_2 hx hb hB hown (hB _ m_863) hK hP d_M_insert_123 ?_
              refine lv_iload_n hx hb d_M_insert_126 rfl (lv_at hl 1 rfl) ?_
              obtain ⟨hi, h⟩ := ckb_some h
              refine Ma_2 hx hb hK hP hi d_M_insert_127 ?_
              refine lv_bipush (v := (8 : Int32)) hx hb d_M_insert_128 (by decide) ?_
              refine lv_icmp_ne (tgt := 136) hx hb d_M_insert_130 (by decide) (fun hc => ?_) (fun hc => ?_)
              · replace h := it_f h hc
                refine lv_iconst (v := (0 : Int32)) hx hb d_M_insert_136 (by decide) ?_
                have L139 : ∀ (n : Nat) (σ : St) (x1 : Int32) (x2 : Int64) (x4 : Int64) (x6 : Int64) (x8 : Int64) (x10 : Int32) (x12 : Int32) (H : Heap) (locs : List Loc) (ls : Array Slot), va_P D vCl (wM g ca a σ ++ tl) H → va_D A (wM g ca a σ ++ tl) → va_S A s.heap H locs → lv_has ls 15 [(0, .ref (a 0)), (1, .int x1), (2, .long x2), (4, .long x4), (6, .long x6), (8, .long x8), (10, .int x10), (12, .int x12)] → f_M_insert_139 N n σ x1 x2 x4 x6 x8 x10 x12 = some (r, σ') → W p l e R s m args below meth c H locs 0 0 (MQ below (qb_QI D vCl (tyM ca) (wM g ca a σ' ++ tl) A r) args s 0 0 A) (F0 m 139 ls []) := by
                  intro n
                  induction n with
                  | zero => intro σ x1 x2 x4 x6 x8 x10 x12 H locs ls hP hD hS hl h; cases h
                  | succ n ih139 =>
                      intro σ x1 x2 x4 x6 x8 x10 x12 H locs ls hP hD hS hl h
                      obtain ⟨K139, eK139⟩ : ∃ K, K = f_M_insert_139 N n := ⟨_, rfl⟩
                      rw [← eK139] at ih139
                      replace h : f_M_insert_139_b N K139 σ x1 x2 x4 x6 x8 x10 x12 = some (r, σ') := by rw [eK139]; exact h
                      unfold f_M_insert_139_b at h
                      refine lv_iload hx hb d_M_insert_139 (lv_at hl 7 rfl) ?_
                      refine lv_aload_n hx hb d_M_insert_141 rfl (lv_at hl 0 rfl) ?_
                      refine Mg_0_1 hx hb hB hown (hB _ m_862) hK hP d_M_insert_142 ?_
                      refine lv_iload_n hx hb d_M_insert_145 rfl (lv_at hl 1 rfl) ?_
                      obtain ⟨hi, h⟩ := ckb_some h
                      refine Ma_1 hx hb hK hP hi d_M_insert_146 ?_
                      refine lv_icmp_ge (tgt := 237) hx hb d_M_insert_147 (by decide) (fun hc => ?_) (fun hc => ?_)
                      · replace h := it_t h hc
                        refine lv_aload_n hx hb d_M_insert_237 rfl (lv_at hl 0 rfl) ?_
                        refine Mg_0_2 hx hb hB hown (hB _ m_863) hK hP d_M_insert_238 ?_
                        refine lv_iload_n hx hb d_M_insert_241 rfl (lv_at hl 1 rfl) ?_
                        refine lv_dup2_11 hx hb d_M_insert_242 rfl rfl ?_
                        obtain ⟨hi, h⟩ := ckb_some h
                        refine Ma_2 hx hb hK hP hi d_M_insert_243 ?_
                        refine lv_iconst (v := (1 : Int32)) hx hb d_M_insert_244 (by decide) ?_
                        refine lv_iadd hx hb d_M_insert_245 ?_
                        obtain ⟨hi, h⟩ := ckb_some h
                        obtain ⟨s3, es3, h⟩ := nm_some h
                        refine Ms_2 es3 hx hb hK hP hD hS hi d_M_insert_246 (fun H locs hP hD hS => ?_)
                        refine lv_aload_n hx hb d_M_insert_247 rfl (lv_at hl 0 rfl) ?_
                        refine Mg_0_2 hx hb hB hown (hB _ m_863) hK hP d_M_insert_248 ?_
                        refine lv_iload_n hx hb d_M_insert_251 rfl (lv_at hl 1 rfl) ?_
                        obtain ⟨hi, h⟩ := ckb_some h
                        refine Ma_2 hx hb hK hP hi d_M_insert_252 ?_
                        exact rf_I (w := (fun z => wM g ca a z ++ tl)) h hx hb hr hlk hK hP hD hS d_M_insert_253
                      · replace h := it_f h hc
                        refine lv_bipush (v := (32 : Int32)) hx hb d_M_insert_150 (by decide) ?_
                        refine lv_iload_n hx hb d_M_insert_152 rfl (lv_at hl 1 rfl) ?_
                        refine lv_imul hx hb d_M_insert_153 ?_
                        refine lv_iconst (v := (4 : Int32)) hx hb d_M_insert_154 (by decide) ?_
                        refine lv_aload_n hx hb d_M_insert_155 rfl (lv_at hl 0 rfl) ?_
                        refine Mg_0_2 hx hb hB hown (hB _ m_863) hK hP d_M_insert_156 ?_
                        refine lv_iload_n hx hb d_M_insert_159 rfl (lv_at hl 1 rfl) ?_
                        obtain ⟨hi, h⟩ := ckb_some h
                        refine Ma_2 hx hb hK hP hi d_M_insert_160 ?_
                        refine lv_imul hx hb d_M_insert_161 ?_
                        refine lv_iadd hx hb d_M_insert_162 ?_
                        refine lv_iload hx hb d_M_insert_163 (lv_at hl 7 rfl) ?_
                        refine lv_iadd hx hb d_M_insert_165 ?_
                        refine lv_istore (lv' := [(13, .int ((((32 : Int32) * x1) + ((4 : Int32) * (ga σ 1 (x1).toNatClampNeg))) + x12)), (0, .ref (a 0)), (1, .int x1), (2, .long x2), (4, .long x4), (6, .long x6), (8, .long x8), (10, .int x10), (12, .int x12)]) hx hb d_M_insert_166 hl (by decide) rfl (fun ls hl => ?_)
                        refine lv_aload_n hx hb d_M_insert_168 rfl (lv_at hl 1 rfl) ?_
                        refine Mg_0_4 hx hb hB hown (hB _ m_865) hK hP d_M_insert_169 ?_
                        refine lv_iload hx hb d_M_insert_172 (lv_at hl 0 rfl) ?_
                        refine lv_iload hx hb d_M_insert_174 (lv_at hl 7 rfl) ?_
                        refine lv_iload hx hb d_M_insert_176 (lv_at hl 8 rfl) ?_
                        refine lv_ishr hx hb d_M_insert_178 ?_
                        refine lv_iconst (v := (1 : Int32)) hx hb d_M_insert_179 (by decide) ?_
                        refine lv_iand hx hb d_M_insert_180 ?_
                        refine lv_iconst (v := (1 : Int32)) hx hb d_M_insert_181 (by decide) ?_
                        have L190 : ∀ (σ : St) (x1 : Int32) (x2 : Int64) (x4 : Int64) (x6 : Int64) (x8 : Int64) (x10 : Int32) (x12 : Int32) (x13 : Int32) (t0 : Int32) (t1 : Int32) (H : Heap) (locs : List Loc) (ls : Array Slot), va_P D vCl (wM g ca a σ ++ tl) H → va_D A (wM g ca a σ ++ tl) → va_S A s.heap H locs → lv_has ls 15 [(0, .ref (a 0)), (1, .int x1), (2, .long x2), (4, .long x4), (6, .long x6), (8, .long x8), (10, .int x10), (12, .int x12), (13, .int x13)] → f_M_insert_190 N K139 σ x1 x2 x4 x6 x8 x10 x12 x13 t0 t1 = some (r, σ') → W p l e R s m args below meth c H locs 0 0 (MQ below (qb_QI D vCl (tyM ca) (wM g ca a σ' ++ tl) A r) args s 0 0 A) (F0 m 190 ls [.int t0, .int t1, .ref (a 4)]) := by
                          intro σ x1 x2 x4 x6 x8 x10 x12 x13 t0 t1 H locs ls hP hD hS hl h
                          unfold f_M_insert_190 at h
                          obtain ⟨hi, h⟩ := ckb_some h
                          obtain ⟨s4, es4, h⟩ := nm_some h
                          refine Ms_4 es4 hx hb hK hP hD hS hi d_M_insert_190 (fun H locs hP hD hS => ?_)
                          refine lv_aload_n hx hb d_M_insert_191 rfl (lv_at hl 0 rfl) ?_
                          refine Mg_0_3 hx hb hB hown (hB _ m_864) hK hP d_M_insert_192 ?_
                          refine lv_iload hx hb d_M_insert_195 (lv_at hl 8 rfl) ?_
                          refine lv_iload hx hb d_M_insert_197 (lv_at hl 7 rfl) ?_
                          refine lv_if_ne (tgt := 206) hx hb d_M_insert_199 (by decide) (fun hc => ?_) (fun hc => ?_)
                          · replace h := it_f h hc
                            refine lv_iload hx hb d_M_insert_206 (lv_at hl 7 rfl) ?_
                            refine lv_iconst (v := (1 : Int32)) hx hb d_M_insert_208 (by decide) ?_
                            refine lv_icmp_ne (tgt := 217) hx hb d_M_insert_209 (by decide) (fun hc => ?_) (fun hc => ?_)
                            · replace h := it_f h hc
                              refine lv_iload hx hb d_M_insert_217 (lv_at hl 7 rfl) ?_
                              refine lv_iconst (v := (2 : Int32)) hx hb d_M_insert_219 (by decide) ?_
                              refine lv_icmp_ne (tgt := 228) hx hb d_M_insert_220 (by decide) (fun hc => ?_) (fun hc => ?_)
                              · replace h := it_f h hc
                                refine lv_lload hx hb d_M_insert_228 (lv_at hl 5 rfl) ?_
                                obtain ⟨hi, h⟩ := ckb_some h
                                obtain ⟨s5, es5, h⟩ := nm_some h
                                refine Ms_3 es5 hx hb hK hP hD hS hi d_M_insert_230 (fun H locs hP hD hS => ?_)
                                refine lv_iinc (v := (x12 + 1)) (lv' := [(12, .int (x12 + 1)), (0, .ref (a 0)), (1, .int x1), (2, .long x2), (4, .long x4), (6, .long x6), (8, .long x8), (10, .int x10), (13, .int x13)]) hx hb d_M_insert_231 hl (k := 7) rfl rfl (by decide) rfl (fun ls hl => ?_)
                                refine lv_goto (tgt := 139) hx hb d_M_insert_234 (by decide) ?_
                                exact ih139 s5 x1 x2 x4 x6 x8 x10 (x12 + 1) H locs ls hP hD hS (lv_sub hl [1, 2, 3, 4, 5, 6, 7, 0] rfl) h
                              · replace h := it_t h hc
                                refine lv_lload hx hb d_M_insert_223 (lv_at hl 4 rfl) ?_
                                refine lv_goto (tgt := 230) hx hb d_M_insert_225 (by decide) ?_
                                obtain ⟨hi, h⟩ := ckb_some h
                                obtain ⟨s6, es6, h⟩ := nm_some h
                                refine Ms_3 es6 hx hb hK hP hD hS hi d_M_insert_230 (fun H locs hP hD hS => ?_)
                                refine lv_iinc (v := (x12 + 1)) (lv' := [(12, .int (x12 + 1)), (0, .ref (a 0)), (1, .int x1), (2, .long x2), (4, .long x4), (6, .long x6), (8, .long x8), (10, .int x10), (13, .int x13)]) hx hb d_M_insert_231 hl (k := 7) rfl rfl (by decide) rfl (fun ls hl => ?_)
                                refine lv_goto (tgt := 139) hx hb d_M_insert_234 (by decide) ?_
                                exact ih139 s6 x1 x2 x4 x6 x8 x10 (x12 + 1) H locs ls hP hD hS (lv_sub hl [1, 2, 3, 4, 5, 6, 7, 0] rfl) h
                            · replace h := it_t h hc
                              refine lv_lload hx hb d_M_insert_212 (lv_at hl 3 rfl) ?_
                              refine lv_goto (tgt := 230) hx hb d_M_insert_214 (by decide) ?_
                              obtain ⟨hi, h⟩ := ckb_some h
                              obtain ⟨s7, es7, h⟩ := nm_some h
                              refine Ms_3 es7 hx hb hK hP hD hS hi d_M_insert_230 (fun H locs hP hD hS => ?_)
                              refine lv_iinc (v := (x12 + 1)) (lv' := [(12, .int (x12 + 1)), (0, .ref (a 0)), (1, .int x1), (2, .long x2), (4, .long x4), (6, .long x6), (8, .long x8), (10, .int x10), (13, .int x13)]) hx hb d_M_insert_231 hl (k := 7) rfl rfl (by decide) rfl (fun ls hl => ?_)
                              refine lv_goto (tgt := 139) hx hb d_M_insert_234 (by decide) ?_
                              exact ih139 s7 x1 x2 x4 x6 x8 x10 (x12 + 1) H locs ls hP hD hS (lv_sub hl [1, 2, 3, 4, 5, 6, 7, 0] rfl) h
                          · replace h := it_t h hc
                            refine lv_lload_n hx hb d_M_insert_202 rfl (lv_at hl 2 rfl) ?_
                            refine lv_goto (tgt := 230) hx hb d_M_insert_203 (by decide) ?_
                            obtain ⟨hi, h⟩ := ckb_some h
                            obtain ⟨s8, es8, h⟩ := nm_some h
                            refine Ms_3 es8 hx hb hK hP hD hS hi d_M_insert_230 (fun H locs hP hD hS => ?_)
                            refine lv_iinc (v := (x12 + 1)) (lv' := [(12, .int (x12 + 1)), (0, .ref (a 0)), (1, .int x1), (2, .long x2), (4, .long x4), (6, .long x6), (8, .long x8), (10, .int x10), (13, .int x13)]) hx hb d_M_insert_231 hl (k := 7) rfl rfl (by decide) rfl (fun ls hl => ?_)
                            refine lv_goto (tgt := 139) hx hb d_M_insert_234 (by decide) ?_
                            exact ih139 s8 x1 x2 x4 x6 x8 x10 (x12 + 1) H locs ls hP hD hS (lv_sub hl [1, 2, 3, 4, 5, 6, 7, 0] rfl) h
                        refine lv_icmp_ne (tgt := 189) hx hb d_M_insert_182 (by decide) (fun hc => ?_) (fun hc => ?_)
                        · replace h := it_f h hc
                          refine lv_iconst (v := (0 : Int32)) hx hb d_M_insert_189 (by decide) ?_
                          exact L190 σ x1 x2 x4 x6 x8 x10 x12 ((((32 : Int32) * x1) + ((4 : Int32) * (ga σ 1 (x1).toNatClampNeg))) + x12) (0 : Int32) ((((32 : Int32) * x1) + ((4 : Int32) * (ga σ 1 (x1).toNatClampNeg))) + x12) H locs ls hP hD hS (lv_sub hl [1, 2, 3, 4, 5, 6, 7, 8, 0] rfl) h
                        · replace h := it_t h hc
                          refine lv_iconst (v := (1 : Int32)) hx hb d_M_insert_185 (by decide) ?_
                          refine lv_goto (tgt := 190) hx hb d_M_insert_186 (by decide) ?_
                          exact L190 σ x1 x2 x4 x6 x8 x10 x12 ((((32 : Int32) * x1) + ((4 : Int32) * (ga σ 1 (x1).toNatClampNeg))) + x12) (1 : Int32) ((((32 : Int32) * x1) + ((4 : Int32) * (ga σ 1 (x1).toNatClampNeg))) + x12) H locs ls hP hD hS (lv_sub hl [1, 2, 3, 4, 5, 6, 7, 8, 0] rfl) h
                refine lv_istore (lv' := [(12, .int (0 : Int32)), (0, .ref (a 0)), (1, .int x1), (2, .long x2), (4, .long x4), (6, .long x6), (8, .long x8), (10, .int x10), (11, .int x11)]) hx hb d_M_insert_137 hl (by decide) rfl (fun ls hl => ?_)
                exact L139 N σ x1 x2 x4 x6 x8 x10 (0 : Int32) H locs ls hP hD hS (lv_sub hl [1, 2, 3, 4, 5, 6, 7, 0] rfl) h
              · replace h := it_t h hc
                refine lv_bipush (v := (-104 : Int32)) hx hb d_M_insert_133 (by decide) ?_
                exact rf_I (w := (fun z => wM g ca a z ++ tl)) h hx hb hr hlk hK hP hD hS d_M_insert_135
            · replace h := it_t h hc
              refine lv_bipush (v := (-102 : Int32)) hx hb d_M_insert_119 (by decide) ?_
              exact rf_I (w := (fun z => wM g ca a z ++ tl)) h hx hb hr hlk hK hP hD hS d_M_insert_121
          · replace h := it_f h hc
            refine lv_iload hx hb d_M_insert_36 (lv_at hl 8 rfl) ?_
            have L69 : ∀ (σ : St) (x1 : Int32) (x2 : Int64) (x4 : Int64) (x6 : Int64) (x8 : Int64) (x10 : Int32) (x11 : Int32) (x12 : Int32) (t0 : Int64) (H : Heap) (locs : List Loc) (ls : Array Slot), va_P D vCl (wM g ca a σ ++ tl) H → va_D A (wM g ca a σ ++ tl) → va_S A s.heap H locs → lv_has ls 15 [(0, .ref (a 0)), (1, .int x1), (2, .long x2), (4, .long x4), (6, .long x6), (8, .long x8), (10, .int x10), (11, .int x11), (12, .int x12)] → f_M_insert_69 N K25 σ x1 x2 x4 x6 x8 x10 x11 x12 t0 = some (r, σ') → W p l e R s m args below meth c H locs 0 0 (MQ below (qb_QI D vCl (tyM ca) (wM g ca a σ' ++ tl) A r) args s 0 0 A) (F0 m 69 ls [.long t0]) := by
              intro σ x1 x2 x4 x6 x8 x10 x11 x12 t0 H locs ls hP hD hS hl h
              unfold f_M_insert_69 at h
              refine lv_lstore (lv' := [(13, .long t0), (0, .ref (a 0)), (1, .int x1), (2, .long x2), (4, .long x4), (6, .long x6), (8, .long x8), (10, .int x10), (11, .int x11), (12, .int x12)]) hx hb d_M_insert_69 hl (by decide) rfl (fun ls hl => ?_)
              refine lv_iload hx hb d_M_insert_71 (lv_at hl 8 rfl) ?_
              refine lv_if_eq (tgt := 105) hx hb d_M_insert_73 (by decide) (fun hc => ?_) (fun hc => ?_)
              · replace h := it_t h hc
                refine lv_iconst (v := (0 : Int32)) hx hb d_M_insert_105 (by decide) ?_
                refine lv_istore (lv' := [(11, .int (0 : Int32)), (13, .long t0), (0, .ref (a 0)), (1, .int x1), (2, .long x2), (4, .long x4), (6, .long x6), (8, .long x8), (10, .int x10), (12, .int x12)]) hx hb d_M_insert_106 hl (by decide) rfl (fun ls hl => ?_)
                refine lv_iinc (v := (x12 + 1)) (lv' := [(12, .int (x12 + 1)), (11, .int (0 : Int32)), (13, .long t0), (0, .ref (a 0)), (1, .int x1), (2, .long x2), (4, .long x4), (6, .long x6), (8, .long x8), (10, .int x10)]) hx hb d_M_insert_108 hl (k := 9) rfl rfl (by decide) rfl (fun ls hl => ?_)
                refine lv_goto (tgt := 25) hx hb d_M_insert_111 (by decide) ?_
                exact ih25 σ x1 x2 x4 x6 x8 x10 (0 : Int32) (x12 + 1) H locs ls hP hD hS (lv_sub hl [3, 4, 5, 6, 7, 8, 9, 1, 0] rfl) h
              · replace h := it_f h hc
                refine lv_iload hx hb d_M_insert_76 (lv_at hl 7 rfl) ?_
                refine lv_iload hx hb d_M_insert_78 (lv_at hl 9 rfl) ?_
                refine lv_ishr hx hb d_M_insert_80 ?_
                refine lv_iconst (v := (1 : Int32)) hx hb d_M_insert_81 (by decide) ?_
                refine lv_iand hx hb d_M_insert_82 ?_
                refine lv_iconst (v := (1 : Int32)) hx hb d_M_insert_83 (by decide) ?_
                refine lv_icmp_eq (tgt := 101) hx hb d_M_insert_84 (by decide) (fun hc => ?_) (fun hc => ?_)
                · replace h := it_t h hc
                  refine lv_iconst (v := (1 : Int32)) hx hb d_M_insert_101 (by decide) ?_
                  refine lv_goto (tgt := 106) hx hb d_M_insert_102 (by decide) ?_
                  refine lv_istore (lv' := [(11, .int (1 : Int32)), (13, .long t0), (0, .ref (a 0)), (1, .int x1), (2, .long x2), (4, .long x4), (6, .long x6), (8, .long x8), (10, .int x10), (12, .int x12)]) hx hb d_M_insert_106 hl (by decide) rfl (fun ls hl => ?_)
                  refine lv_iinc (v := (x12 + 1)) (lv' := [(12, .int (x12 + 1)), (11, .int (1 : Int32)), (13, .long t0), (0, .ref (a 0)), (1, .int x1), (2, .long x2), (4, .long x4), (6, .long x6), (8, .long x8), (10, .int x10)]) hx hb d_M_insert_108 hl (k := 9) rfl rfl (by decide) rfl (fun ls hl => ?_)
                  refine lv_goto (tgt := 25) hx hb d_M_insert_111 (by decide) ?_
                  exact ih25 σ x1 x2 x4 x6 x8 x10 (1 : Int32) (x12 + 1) H locs ls hP hD hS (lv_sub hl [3, 4, 5, 6, 7, 8, 9, 1, 0] rfl) h
                · replace h := it_f h hc
                  refine lv_lload hx hb d_M_insert_87 (lv_at hl 0 rfl) ?_
                  refine lv_ldc2 (v := (-1000000000000 : Int64)) hx hb hown (hB _ m_1039) d_M_insert_89 ?_
                  refine lv_ldc2 (v := (1000000000000 : Int64)) hx hb hown (hB _ m_1040) d_M_insert_92 ?_
                  obtain ⟨r9, s10, hr9, h⟩ := bd_some h
                  refine go_SI (rest := []) ⟨hx, hb, hml, hown, hB⟩ nwM_ok (c_M_within l D ca g a tl N σ s10 t0 (-1000000000000 : Int64) (1000000000000 : Int64) r9 hr9) (cwx_S hB m_1032 kw_M_within ⟨by rw [hR]; decide, by rw [hR]; decide⟩ rfl rfl) hN hK hP hD hS hA rfl hl.1 rfl (Nat.le_of_ble_eq_true rfl) d_M_insert_95 ⟨by rw [hR]; exact Nat.le_of_ble_eq_true rfl, by rw [hR]; exact Nat.le_of_ble_eq_true rfl⟩ (fun H locs hP hD hS => ?_)
                  refine lv_if_eq (tgt := 105) hx hb d_M_insert_98 (by decide) (fun hc => ?_) (fun hc => ?_)
                  · replace h := it_t h hc
                    refine lv_iconst (v := (0 : Int32)) hx hb d_M_insert_105 (by decide) ?_
                    refine lv_istore (lv' := [(11, .int (0 : Int32)), (13, .long t0), (0, .ref (a 0)), (1, .int x1), (2, .long x2), (4, .long x4), (6, .long x6), (8, .long x8), (10, .int x10), (12, .int x12)]) hx hb d_M_insert_106 hl (by decide) rfl (fun ls hl => ?_)
                    refine lv_iinc (v := (x12 + 1)) (lv' := [(12, .int (x12 + 1)), (11, .int (0 : Int32)), (13, .long t0), (0, .ref (a 0)), (1, .int x1), (2, .long x2), (4, .long x4), (6, .long x6), (8, .long x8), (10, .int x10)]) hx hb d_M_insert_108 hl (k := 9) rfl rfl (by decide) rfl (fun ls hl => ?_)
                    refine lv_goto (tgt := 25) hx hb d_M_insert_111 (by decide) ?_
                    exact ih25 s10 x1 x2 x4 x6 x8 x10 (0 : Int32) (x12 + 1) H locs ls hP hD hS (lv_sub hl [3, 4, 5, 6, 7, 8, 9, 1, 0] rfl) h
                  · replace h := it_f h hc
                    refine lv_iconst (v := (1 : Int32)) hx hb d_M_insert_101 (by decide) ?_
                    refine lv_goto (tgt := 106) hx hb d_M_insert_102 (by decide) ?_
                    refine lv_istore (lv' := [(11, .int (1 : Int32)), (13, .long t0), (0, .ref (a 0)), (1, .int x1), (2, .long x2), (4, .long x4), (6, .long x6), (8, .long x8), (10, .int x10), (12, .int x12)]) hx hb d_M_insert_106 hl (by decide) rfl (fun ls hl => ?_)
                    refine lv_iinc (v := (x12 + 1)) (lv' := [(12, .int (x12 + 1)), (11, .int (1 : Int32)), (13, .long t0), (0, .ref (a 0)), (1, .int x1), (2, .long x2), (4, .long x4), (6, .long x6), (8, .long x8), (10, .int x10)]) hx hb d_M_insert_108 hl (k := 9) rfl rfl (by decide) rfl (fun ls hl => ?_)
                    refine lv_goto (tgt := 25) hx hb d_M_insert_111 (by decide) ?_
                    exact ih25 s10 x1 x2 x4 x6 x8 x10 (1 : Int32) (x12 + 1) H locs ls hP hD hS (lv_sub hl [3, 4, 5, 6, 7, 8, 9, 1, 0] rfl) h
            refine lv_if_ne (tgt := 45) hx hb d_M_insert_38 (by decide) (fun hc => ?_) (fun hc => ?_)
            · replace h := it_f h hc
              refine lv_iload hx hb d_M_insert_45 (lv_at hl 8 rfl) ?_
              refine lv_iconst (v := (1 : Int32)) hx hb d_M_insert_47 (by decide) ?_
              refine lv_icmp_ne (tgt := 56) hx hb d_M_insert_48 (by decide) (fun hc => ?_) (fun hc => ?_)
              · replace h := it_f h hc
                refine lv_iload hx hb d_M_insert_56 (lv_at hl 8 rfl) ?_
                refine lv_iconst (v := (2 : Int32)) hx hb d_M_insert_58 (by decide) ?_
                refine lv_icmp_ne (tgt := 67) hx hb d_M_insert_59 (by decide) (fun hc => ?_) (fun hc => ?_)
                · replace h := it_f h hc
                  refine lv_lload hx hb d_M_insert_67 (lv_at hl 5 rfl) ?_
                  exact L69 σ x1 x2 x4 x6 x8 x10 x11 x12 x8 H locs ls hP hD hS (lv_sub hl [0, 1, 2, 3, 4, 5, 6, 7, 8] rfl) h
                · replace h := it_t h hc
                  refine lv_lload hx hb d_M_insert_62 (lv_at hl 4 rfl) ?_
                  refine lv_goto (tgt := 69) hx hb d_M_insert_64 (by decide) ?_
                  exact L69 σ x1 x2 x4 x6 x8 x10 x11 x12 x6 H locs ls hP hD hS (lv_sub hl [0, 1, 2, 3, 4, 5, 6, 7, 8] rfl) h
              · replace h := it_t h hc
                refine lv_lload hx hb d_M_insert_51 (lv_at hl 3 rfl) ?_
                refine lv_goto (tgt := 69) hx hb d_M_insert_53 (by decide) ?_
                exact L69 σ x1 x2 x4 x6 x8 x10 x11 x12 x4 H locs ls hP hD hS (lv_sub hl [0, 1, 2, 3, 4, 5, 6, 7, 8] rfl) h
            · replace h := it_t h hc
              refine lv_lload_n hx hb d_M_insert_41 rfl (lv_at hl 2 rfl) ?_
              refine lv_goto (tgt := 69) hx hb d_M_insert_42 (by decide) ?_
              exact L69 σ x1 x2 x4 x6 x8 x10 x11 x12 x2 H locs ls hP hD hS (lv_sub hl [0, 1, 2, 3, 4, 5, 6, 7, 8] rfl) h
    refine lv_istore (lv' := [(12, .int (0 : Int32)), (11, .int (1 : Int32)), (0, .ref (a 0)), (1, .int x1), (2, .long x2), (4, .long x4), (6, .long x6), (8, .long x8), (10, .int x10)]) hx hb d_M_insert_23 hl (by decide) rfl (fun ls hl => ?_)
    exact L25 N s2 x1 x2 x4 x6 x8 x10 (1 : Int32) (0 : Int32) H locs ls hP hD hS (lv_sub hl [2, 3, 4, 5, 6, 7, 8, 1, 0] rfl) h
  · replace h := it_t h hc
    refine lv_bipush (v := (-101 : Int32)) hx hb d_M_insert_16 (by decide) ?_
    exact rf_I (w := (fun z => wM g ca a z ++ tl)) h hx hb hr hlk hK hP hD hS d_M_insert_18
set_option maxRecDepth 100000 in
set_option maxHeartbeats 4000000 in
theorem c_M_fresh (l : Launch) (D : va_G) (ca : Nat → ClassId) (g : Bool) (a : Nat → Nat) (tl : va_W) (N : Nat) (σ σ' : St) (r : Int32) (h : f_M_fresh N σ = some (r, σ')) : CtI l y_M_fresh ws_M_fresh rm_M_fresh 0 0 D vCl (tyM ca) nwM [.ref (a 0)] (wM g ca a σ ++ tl) (wM g ca a σ' ++ tl) r := by
  refine en_I (ws' := BIG) (by decide +kernel) rfl (Nat.le_of_ble_eq_true rfl) ?_
  intro p e s m below meth c A ls R args H locs hR hx hb hr hlk hml hown hB hK hN hP hD hA hS hl
  have hl : lv_has ls 2 [(0, .ref (a 0))] := hl
  unfold f_M_fresh at h
  refine lv_aload_n hx hb d_M_fresh_0 rfl (lv_at hl 0 rfl) ?_
  refine Mg_0_5 hx hb hB hown (hB _ m_866) hK hP d_M_fresh_1 ?_
  refine lv_istore_n (lv' := [(1, .int (gi σ 1)), (0, .ref (a 0))]) hx hb d_M_fresh_4 rfl hl (by decide) rfl (fun ls hl => ?_)
  refine lv_aload_n hx hb d_M_fresh_5 rfl (lv_at hl 1 rfl) ?_
  refine lv_iconst (v := (0 : Int32)) hx hb d_M_fresh_6 (by decide) ?_
  obtain ⟨s1, es1, h⟩ := nm_some h
  refine Mp_0_5 es1 hx hb hB hown (hB _ m_866) hK hP hD hS d_M_fresh_7 (fun H locs hP hD hS => ?_)
  refine lv_aload_n hx hb d_M_fresh_10 rfl (lv_at hl 1 rfl) ?_
  refine lv_iconst (v := (0 : Int32)) hx hb d_M_fresh_11 (by decide) ?_
  obtain ⟨s2, es2, h⟩ := nm_some h
  refine Mp_0_14 es2 hx hb hB hown (hB _ m_875) hK hP hD hS d_M_fresh_12 (fun H locs hP hD hS => ?_)
  refine lv_aload_n hx hb d_M_fresh_15 rfl (lv_at hl 1 rfl) ?_
  refine lv_iconst (v := (0 : Int32)) hx hb d_M_fresh_16 (by decide) ?_
  obtain ⟨s3, es3, h⟩ := nm_some h
  refine Mp_0_16 es3 hx hb hB hown (hB _ m_877) hK hP hD hS d_M_fresh_17 (fun H locs hP hD hS => ?_)
  refine lv_aload_n hx hb d_M_fresh_20 rfl (lv_at hl 1 rfl) ?_
  refine lv_iconst (v := (-1 : Int32)) hx hb d_M_fresh_21 (by decide) ?_
  obtain ⟨s4, es4, h⟩ := nm_some h
  refine Mp_0_20 es4 hx hb hB hown (hB _ m_881) hK hP hD hS d_M_fresh_22 (fun H locs hP hD hS => ?_)
  refine lv_aload_n hx hb d_M_fresh_25 rfl (lv_at hl 1 rfl) ?_
  refine lv_iconst (v := (-1 : Int32)) hx hb d_M_fresh_26 (by decide) ?_
  obtain ⟨s5, es5, h⟩ := nm_some h
  refine Mp_0_21 es5 hx hb hB hown (hB _ m_882) hK hP hD hS d_M_fresh_27 (fun H locs hP hD hS => ?_)
  refine lv_aload_n hx hb d_M_fresh_30 rfl (lv_at hl 1 rfl) ?_
  refine lv_iconst (v := (0 : Int32)) hx hb d_M_fresh_31 (by decide) ?_
  obtain ⟨s6, es6, h⟩ := nm_some h
  refine Mp_0_22 es6 hx hb hB hown (hB _ m_883) hK hP hD hS d_M_fresh_32 (fun H locs hP hD hS => ?_)
  refine lv_aload_n hx hb d_M_fresh_35 rfl (lv_at hl 1 rfl) ?_
  refine lv_iconst (v := (0 : Int32)) hx hb d_M_fresh_36 (by decide) ?_
  obtain ⟨s7, es7, h⟩ := nm_some h
  refine Mp_0_24 es7 hx hb hB hown (hB _ m_885) hK hP hD hS d_M_fresh_37 (fun H locs hP hD hS => ?_)
  refine lv_aload_n hx hb d_M_fresh_40 rfl (lv_at hl 1 rfl) ?_
  refine lv_iconst (v := (0 : Int32)) hx hb d_M_fresh_41 (by decide) ?_
  obtain ⟨s8, es8, h⟩ := nm_some h
  refine Mp_0_26 es8 hx hb hB hown (hB _ m_887) hK hP hD hS d_M_fresh_42 (fun H locs hP hD hS => ?_)
  refine lv_aload_n hx hb d_M_fresh_45 rfl (lv_at hl 1 rfl) ?_
  refine lv_iconst (v := (0 : Int32)) hx hb d_M_fresh_46 (by decide) ?_
  obtain ⟨s9, es9, h⟩ := nm_some h
  refine Mp_0_29 es9 hx hb hB hown (hB _ m_890) hK hP hD hS ⟨rfl, rfl⟩ d_M_fresh_47 (fun H locs hP hD hS => ?_)
  refine lv_aload_n hx hb d_M_fresh_50 rfl (lv_at hl 1 rfl) ?_
  refine lv_sipush (v := (1000 : Int32)) hx hb d_M_fresh_51 (by decide) ?_
  obtain ⟨s10, es10, h⟩ := nm_some h
  refine Mp_0_30 es10 hx hb hB hown (hB _ m_891) hK hP hD hS d_M_fresh_54 (fun H locs hP hD hS => ?_)
  refine lv_aload_n hx hb d_M_fresh_57 rfl (lv_at hl 1 rfl) ?_
  refine lv_iconst (v := (0 : Int32)) hx hb d_M_fresh_58 (by decide) ?_
  obtain ⟨s11, es11, h⟩ := nm_some h
  refine Mp_0_31 es11 hx hb hB hown (hB _ m_892) hK hP hD hS d_M_fresh_59 (fun H locs hP hD hS => ?_)
  refine lv_iload_n hx hb d_M_fresh_62 rfl (lv_at hl 0 rfl) ?_
  exact rf_I (w := (fun z => wM g ca a z ++ tl)) h hx hb hr hlk hK hP hD hS d_M_fresh_63
set_option maxRecDepth 100000 in
set_option maxHeartbeats 4000000 in
theorem c_M_isTwo (l : Launch) (D : va_G) (ca : Nat → ClassId) (g : Bool) (a : Nat → Nat) (tl : va_W) (N : Nat) (σ σ' : St) (x1 : Int32) (r : Int32) (h : f_M_isTwo N σ x1 = some (r, σ')) : CtI l y_M_isTwo ws_M_isTwo rm_M_isTwo 0 0 D vCl (tyM ca) nwM [.ref (a 0), .int x1] (wM g ca a σ ++ tl) (wM g ca a σ' ++ tl) r := by
  refine en_Z (ws' := BIG) (by decide +kernel) rfl (Nat.le_of_ble_eq_true rfl) ?_
  intro p e s m below meth c A ls R args H locs hR hx hb hr hlk hml hown hB hK hN hP hD hA hS hl
  have hl : lv_has ls 2 [(0, .ref (a 0)), (1, .int x1)] := hl
  unfold f_M_isTwo at h
  refine lv_iload_n hx hb d_M_isTwo_0 rfl (lv_at hl 1 rfl) ?_
  refine lv_bipush (v := (11 : Int32)) hx hb d_M_isTwo_1 (by decide) ?_
  refine lv_icmp_ge (tgt := 10) hx hb d_M_isTwo_3 (by decide) (fun hc => ?_) (fun hc => ?_)
  · replace h := it_t h hc
    refine lv_iconst (v := (0 : Int32)) hx hb d_M_isTwo_10 (by decide) ?_
    exact rf_Z (w := (fun z => wM g ca a z ++ tl)) h hx hb hr hlk hK hP hD hS rfl d_M_isTwo_11
  · replace h := it_f h hc
    refine lv_iconst (v := (1 : Int32)) hx hb d_M_isTwo_6 (by decide) ?_
    refine lv_goto (tgt := 11) hx hb d_M_isTwo_7 (by decide) ?_
    exact rf_Z (w := (fun z => wM g ca a z ++ tl)) h hx hb hr hlk hK hP hD hS rfl d_M_isTwo_11
set_option maxRecDepth 100000 in
set_option maxHeartbeats 4000000 in
theorem c_M_isLike (l : Launch) (D : va_G) (ca : Nat → ClassId) (g : Bool) (a : Nat → Nat) (tl : va_W) (N : Nat) (σ σ' : St) (x1 : Int32) (x2 : Int32) (r : Int32) (h : f_M_isLike N σ x1 x2 = some (r, σ')) : CtI l y_M_isLike ws_M_isLike rm_M_isLike 0 0 D vCl (tyM ca) nwM [.ref (a 0), .int x1, .int x2] (wM g ca a σ ++ tl) (wM g ca a σ' ++ tl) r := by
  refine en_Z (ws' := BIG) (by decide +kernel) rfl (Nat.le_of_ble_eq_true rfl) ?_
  intro p e s m below meth c A ls R args H locs hR hx hb hr hlk hml hown hB hK hN hP hD hA hS hl
  have hl : lv_has ls 3 [(0, .ref (a 0)), (1, .int x1), (2, .int x2)] := hl
  unfold f_M_isLike at h
  refine lv_aload_n hx hb d_M_isLike_0 rfl (lv_at hl 0 rfl) ?_
  refine Mg_0_6 hx hb hB hown (hB _ m_867) hK hP d_M_isLike_1 ?_
  refine lv_iload_n hx hb d_M_isLike_4 rfl (lv_at hl 1 rfl) ?_
  obtain ⟨hi, h⟩ := ckb_some h
  refine Ma_5 hx hb hK hP hi d_M_isLike_5 ?_
  refine lv_aload_n hx hb d_M_isLike_6 rfl (lv_at hl 0 rfl) ?_
  refine Mg_0_6 hx hb hB hown (hB _ m_867) hK hP d_M_isLike_7 ?_
  refine lv_iload_n hx hb d_M_isLike_10 rfl (lv_at hl 2 rfl) ?_
  obtain ⟨hi, h⟩ := ckb_some h
  refine Ma_5 hx hb hK hP hi d_M_isLike_11 ?_
  refine lv_icmp_ne (tgt := 30) hx hb d_M_isLike_12 (by decide) (fun hc => ?_) (fun hc => ?_)
  · replace h := it_f h hc
    refine lv_iconst (v := (0 : Int32)) hx hb d_M_isLike_30 (by decide) ?_
    exact rf_Z (w := (fun z => wM g ca a z ++ tl)) h hx hb hr hlk hK hP hD hS rfl d_M_isLike_31
  · replace h := it_t h hc
    refine lv_aload_n hx hb d_M_isLike_15 rfl (lv_at hl 0 rfl) ?_
    refine Mg_0_10 hx hb hB hown (hB _ m_871) hK hP d_M_isLike_16 ?_
    refine lv_iload_n hx hb d_M_isLike_19 rfl (lv_at hl 1 rfl) ?_
    obtain ⟨hi, h⟩ := ckb_some h
    refine Ma_9 hx hb hK hP hi d_M_isLike_20 ?_
    refine lv_aload_n hx hb d_M_isLike_21 rfl (lv_at hl 0 rfl) ?_
    refine Mg_0_10 hx hb hB hown (hB _ m_871) hK hP d_M_isLike_22 ?_
    refine lv_iload_n hx hb d_M_isLike_25 rfl (lv_at hl 2 rfl) ?_
    obtain ⟨hi, h⟩ := ckb_some h
    refine Ma_9 hx hb hK hP hi d_M_isLike_26 ?_
    refine lv_icmp_eq (tgt := 32) hx hb d_M_isLike_27 (by decide) (fun hc => ?_) (fun hc => ?_)
    · replace h := it_t h hc
      refine lv_aload_n hx hb d_M_isLike_32 rfl (lv_at hl 0 rfl) ?_
      refine Mg_0_6 hx hb hB hown (hB _ m_867) hK hP d_M_isLike_33 ?_
      refine lv_iload_n hx hb d_M_isLike_36 rfl (lv_at hl 1 rfl) ?_
      obtain ⟨hi, h⟩ := ckb_some h
      refine Ma_5 hx hb hK hP hi d_M_isLike_37 ?_
      refine lv_bipush (v := (20 : Int32)) hx hb d_M_isLike_38 (by decide) ?_
      refine lv_icmp_ne (tgt := 74) hx hb d_M_isLike_40 (by decide) (fun hc => ?_) (fun hc => ?_)
      · replace h := it_f h hc
        refine lv_aload_n hx hb d_M_isLike_74 rfl (lv_at hl 0 rfl) ?_
        refine Mg_0_6 hx hb hB hown (hB _ m_867) hK hP d_M_isLike_75 ?_
        refine lv_iload_n hx hb d_M_isLike_78 rfl (lv_at hl 1 rfl) ?_
        obtain ⟨hi, h⟩ := ckb_some h
        refine Ma_5 hx hb hK hP hi d_M_isLike_79 ?_
        refine lv_bipush (v := (21 : Int32)) hx hb d_M_isLike_80 (by decide) ?_
        refine lv_icmp_ne (tgt := 121) hx hb d_M_isLike_82 (by decide) (fun hc => ?_) (fun hc => ?_)
        · replace h := it_f h hc
          refine lv_aload_n hx hb d_M_isLike_121 rfl (lv_at hl 0 rfl) ?_
          refine Mg_0_13 hx hb hB hown (hB _ m_874) hK hP d_M_isLike_122 ?_
          refine lv_aload_n hx hb d_M_isLike_125 rfl (lv_at hl 0 rfl) ?_
          refine Mg_0_7 hx hb hB hown (hB _ m_868) hK hP d_M_isLike_126 ?_
          refine lv_iload_n hx hb d_M_isLike_129 rfl (lv_at hl 1 rfl) ?_
          obtain ⟨hi, h⟩ := ckb_some h
          refine Ma_6 hx hb hK hP hi d_M_isLike_130 ?_
          obtain ⟨hi, h⟩ := ckb_some h
          refine Ma_12 hx hb hK hP hi d_M_isLike_131 ?_
          refine lv_aload_n hx hb d_M_isLike_132 rfl (lv_at hl 0 rfl) ?_
          refine Mg_0_13 hx hb hB hown (hB _ m_874) hK hP d_M_isLike_133 ?_
          refine lv_aload_n hx hb d_M_isLike_136 rfl (lv_at hl 0 rfl) ?_
          refine Mg_0_7 hx hb hB hown (hB _ m_868) hK hP d_M_isLike_137 ?_
          refine lv_iload_n hx hb d_M_isLike_140 rfl (lv_at hl 2 rfl) ?_
          obtain ⟨hi, h⟩ := ckb_some h
          refine Ma_6 hx hb hK hP hi d_M_isLike_141 ?_
          obtain ⟨hi, h⟩ := ckb_some h
          refine Ma_12 hx hb hK hP hi d_M_isLike_142 ?_
          refine lv_icmp_ne (tgt := 188) hx hb d_M_isLike_143 (by decide) (fun hc => ?_) (fun hc => ?_)
          · replace h := it_f h hc
            refine lv_iconst (v := (0 : Int32)) hx hb d_M_isLike_188 (by decide) ?_
            exact rf_Z (w := (fun z => wM g ca a z ++ tl)) h hx hb hr hlk hK hP hD hS rfl d_M_isLike_189
          · replace h := it_t h hc
            refine lv_aload_n hx hb d_M_isLike_146 rfl (lv_at hl 0 rfl) ?_
            refine lv_aload_n hx hb d_M_isLike_147 rfl (lv_at hl 0 rfl) ?_
            refine Mg_0_6 hx hb hB hown (hB _ m_867) hK hP d_M_isLike_148 ?_
            refine lv_iload_n hx hb d_M_isLike_151 rfl (lv_at hl 1 rfl) ?_
            obtain ⟨hi, h⟩ := ckb_some h
            refine Ma_5 hx hb hK hP hi d_M_isLike_152 ?_
            obtain ⟨r1, s2, hr1, h⟩ := bd_some h
            refine go_VI (rest := []) ⟨hx, hb, hml, hown, hB⟩ nwM_ok (c_M_isTwo l D ca g a tl N σ s2 (ga σ 3 (x1).toNatClampNeg) r1 hr1) (cwx_V hB m_1053 kw_M_isTwo ⟨by rw [hR]; decide, by rw [hR]; decide⟩ rfl rfl) (va_recv hK hP (ci := 1) (q0 := 0) rfl rfl) hN hK hP hD hS hA rfl hl.1 rfl (Nat.le_of_ble_eq_true rfl) d_M_isLike_153 ⟨by rw [hR]; exact Nat.le_of_ble_eq_true rfl, by rw [hR]; exact Nat.le_of_ble_eq_true rfl⟩ (fun H locs hP hD hS => ?_)
            refine lv_if_eq (tgt := 184) hx hb d_M_isLike_156 (by decide) (fun hc => ?_) (fun hc => ?_)
            · replace h := it_t h hc
              refine lv_iconst (v := (1 : Int32)) hx hb d_M_isLike_184 (by decide) ?_
              refine lv_goto (tgt := 189) hx hb d_M_isLike_185 (by decide) ?_
              exact rf_Z (w := (fun z => wM g ca a z ++ tl)) h hx hb hr hlk hK hP hD hS rfl d_M_isLike_189
            · replace h := it_f h hc
              refine lv_aload_n hx hb d_M_isLike_159 rfl (lv_at hl 0 rfl) ?_
              refine Mg_0_13 hx hb hB hown (hB _ m_874) hK hP d_M_isLike_160 ?_
              refine lv_aload_n hx hb d_M_isLike_163 rfl (lv_at hl 0 rfl) ?_
              refine Mg_0_8 hx hb hB hown (hB _ m_869) hK hP d_M_isLike_164 ?_
              refine lv_iload_n hx hb d_M_isLike_167 rfl (lv_at hl 1 rfl) ?_
              obtain ⟨hi, h⟩ := ckb_some h
              refine Ma_7 hx hb hK hP hi d_M_isLike_168 ?_
              obtain ⟨hi, h⟩ := ckb_some h
              refine Ma_12 hx hb hK hP hi d_M_isLike_169 ?_
              refine lv_aload_n hx hb d_M_isLike_170 rfl (lv_at hl 0 rfl) ?_
              refine Mg_0_13 hx hb hB hown (hB _ m_874) hK hP d_M_isLike_171 ?_
              refine lv_aload_n hx hb d_M_isLike_174 rfl (lv_at hl 0 rfl) ?_
              refine Mg_0_8 hx hb hB hown (hB _ m_869) hK hP d_M_isLike_175 ?_
              refine lv_iload_n hx hb d_M_isLike_178 rfl (lv_at hl 2 rfl) ?_
              obtain ⟨hi, h⟩ := ckb_some h
              refine Ma_7 hx hb hK hP hi d_M_isLike_179 ?_
              obtain ⟨hi, h⟩ := ckb_some h
              refine Ma_12 hx hb hK hP hi d_M_isLike_180 ?_
              refine lv_icmp_ne (tgt := 188) hx hb d_M_isLike_181 (by decide) (fun hc => ?_) (fun hc => ?_)
              · replace h := it_f h hc
                refine lv_iconst (v := (0 : Int32)) hx hb d_M_isLike_188 (by decide) ?_
                exact rf_Z (w := (fun z => wM g ca a z ++ tl)) h hx hb hr hlk hK hP hD hS rfl d_M_isLike_189
              · replace h := it_t h hc
                refine lv_iconst (v := (1 : Int32)) hx hb d_M_isLike_184 (by decide) ?_
                refine lv_goto (tgt := 189) hx hb d_M_isLike_185 (by decide) ?_
                exact rf_Z (w := (fun z => wM g ca a z ++ tl)) h hx hb hr hlk hK hP hD hS rfl d_M_isLike_189
        · replace h := it_t h hc
          refine lv_aload_n hx hb d_M_isLike_85 rfl (lv_at hl 0 rfl) ?_
          refine Mg_0_7 hx hb hB hown (hB _ m_868) hK hP d_M_isLike_86 ?_
          refine lv_iload_n hx hb d_M_isLike_89 rfl (lv_at hl 1 rfl) ?_
          obtain ⟨hi, h⟩ := ckb_some h
          refine Ma_6 hx hb hK hP hi d_M_isLike_90 ?_
          refine lv_aload_n hx hb d_M_isLike_91 rfl (lv_at hl 0 rfl) ?_
          refine Mg_0_7 hx hb hB hown (hB _ m_868) hK hP d_M_isLike_92 ?_
          refine lv_iload_n hx hb d_M_isLike_95 rfl (lv_at hl 2 rfl) ?_
          obtain ⟨hi, h⟩ := ckb_some h
          refine Ma_6 hx hb hK hP hi d_M_isLike_96 ?_
          refine lv_icmp_ne (tgt := 119) hx hb d_M_isLike_97 (by decide) (fun hc => ?_) (fun hc => ?_)
          · replace h := it_f h hc
            refine lv_iconst (v := (0 : Int32)) hx hb d_M_isLike_119 (by decide) ?_
            exact rf_Z (w := (fun z => wM g ca a z ++ tl)) h hx hb hr hlk hK hP hD hS rfl d_M_isLike_120
          · replace h := it_t h hc
            refine lv_aload_n hx hb d_M_isLike_100 rfl (lv_at hl 0 rfl) ?_
            refine Mg_0_8 hx hb hB hown (hB _ m_869) hK hP d_M_isLike_101 ?_
            refine lv_iload_n hx hb d_M_isLike_104 rfl (lv_at hl 1 rfl) ?_
            obtain ⟨hi, h⟩ := ckb_some h
            refine Ma_7 hx hb hK hP hi d_M_isLike_105 ?_
            refine lv_aload_n hx hb d_M_isLike_106 rfl (lv_at hl 0 rfl) ?_
            refine Mg_0_8 hx hb hB hown (hB _ m_869) hK hP d_M_isLike_107 ?_
            refine lv_iload_n hx hb d_M_isLike_110 rfl (lv_at hl 2 rfl) ?_
            obtain ⟨hi, h⟩ := ckb_some h
            refine Ma_7 hx hb hK hP hi d_M_isLike_111 ?_
            refine lv_icmp_ne (tgt := 119) hx hb d_M_isLike_112 (by decide) (fun hc => ?_) (fun hc => ?_)
            · replace h := it_f h hc
              refine lv_iconst (v := (0 : Int32)) hx hb d_M_isLike_119 (by decide) ?_
              exact rf_Z (w := (fun z => wM g ca a z ++ tl)) h hx hb hr hlk hK hP hD hS rfl d_M_isLike_120
            · replace h := it_t h hc
              refine lv_iconst (v := (1 : Int32)) hx hb d_M_isLike_115 (by decide) ?_
              refine lv_goto (tgt := 120) hx hb d_M_isLike_116 (by decide) ?_
              exact rf_Z (w := (fun z => wM g ca a z ++ tl)) h hx hb hr hlk hK hP hD hS rfl d_M_isLike_120
      · replace h := it_t h hc
        refine lv_aload_n hx hb d_M_isLike_43 rfl (lv_at hl 0 rfl) ?_
        refine Mg_0_10 hx hb hB hown (hB _ m_871) hK hP d_M_isLike_44 ?_
        refine lv_iload_n hx hb d_M_isLike_47 rfl (lv_at hl 1 rfl) ?_
        obtain ⟨hi, h⟩ := ckb_some h
        refine Ma_9 hx hb hK hP hi d_M_isLike_48 ?_
        refine lv_if_ne (tgt := 68) hx hb d_M_isLike_49 (by decide) (fun hc => ?_) (fun hc => ?_)
        · replace h := it_f h hc
          refine lv_iconst (v := (1 : Int32)) hx hb d_M_isLike_68 (by decide) ?_
          refine lv_goto (tgt := 73) hx hb d_M_isLike_69 (by decide) ?_
          exact rf_Z (w := (fun z => wM g ca a z ++ tl)) h hx hb hr hlk hK hP hD hS rfl d_M_isLike_73
        · replace h := it_t h hc
          refine lv_aload_n hx hb d_M_isLike_52 rfl (lv_at hl 0 rfl) ?_
          refine Mg_0_9 hx hb hB hown (hB _ m_870) hK hP d_M_isLike_53 ?_
          refine lv_iload_n hx hb d_M_isLike_56 rfl (lv_at hl 1 rfl) ?_
          obtain ⟨hi, h⟩ := ckb_some h
          refine Ma_8 hx hb hK hP hi d_M_isLike_57 ?_
          refine lv_aload_n hx hb d_M_isLike_58 rfl (lv_at hl 0 rfl) ?_
          refine Mg_0_9 hx hb hB hown (hB _ m_870) hK hP d_M_isLike_59 ?_
          refine lv_iload_n hx hb d_M_isLike_62 rfl (lv_at hl 2 rfl) ?_
          obtain ⟨hi, h⟩ := ckb_some h
          refine Ma_8 hx hb hK hP hi d_M_isLike_63 ?_
          refine W.lcmp hx hb d_M_isLike_64 ?_
          refine lv_if_ne (tgt := 72) hx hb d_M_isLike_65 (by decide) (fun hc => ?_) (fun hc => ?_)
          · replace h := it_f h hc
            refine lv_iconst (v := (0 : Int32)) hx hb d_M_isLike_72 (by decide) ?_
            exact rf_Z (w := (fun z => wM g ca a z ++ tl)) h hx hb hr hlk hK hP hD hS rfl d_M_isLike_73
          · replace h := it_t h hc
            refine lv_iconst (v := (1 : Int32)) hx hb d_M_isLike_68 (by decide) ?_
            refine lv_goto (tgt := 73) hx hb d_M_isLike_69 (by decide) ?_
            exact rf_Z (w := (fun z => wM g ca a z ++ tl)) h hx hb hr hlk hK hP hD hS rfl d_M_isLike_73
    · replace h := it_f h hc
      refine lv_iconst (v := (0 : Int32)) hx hb d_M_isLike_30 (by decide) ?_
      exact rf_Z (w := (fun z => wM g ca a z ++ tl)) h hx hb hr hlk hK hP hD hS rfl d_M_isLike_31
set_option maxRecDepth 100000 in
set_option maxHeartbeats 4000000 in
theorem c_M_make (l : Launch) (D : va_G) (ca : Nat → ClassId) (g : Bool) (a : Nat → Nat) (tl : va_W) (N : Nat) (σ σ' : St) (x1 : Int32) (x2 : Int32) (x3 : Int32) (x4 : Int64) (x6 : Int32) (r : Int32) (h : f_M_make N σ x1 x2 x3 x4 x6 = some (r, σ')) : CtI l y_M_make ws_M_make rm_M_make 0 0 D vCl (tyM ca) nwM [.ref (a 0), .int x1, .int x2, .int x3, .long x4, .int x6] (wM g ca a σ ++ tl) (wM g ca a σ' ++ tl) r := by
  refine en_I (ws' := BIG) (by decide +kernel) rfl (Nat.le_of_ble_eq_true rfl) ?_
  intro p e s m below meth c A ls R args H locs hR hx hb hr hlk hml hown hB hK hN hP hD hA hS hl
  have hl : lv_has ls 10 [(0, .ref (a 0)), (1, .int x1), (2, .int x2), (3, .int x3), (4, .long x4), (6, .int x6)] := hl
  unfold f_M_make at h
  refine lv_aload_n hx hb d_M_make_0 rfl (lv_at hl 0 rfl) ?_
  refine Mg_0_5 hx hb hB hown (hB _ m_866) hK hP d_M_make_1 ?_
  refine lv_istore (lv' := [(7, .int (gi σ 1)), (0, .ref (a 0)), (1, .int x1), (2, .int x2), (3, .int x3), (4, .long x4), (6, .int x6)]) hx hb d_M_make_4 hl (by decide) rfl (fun ls hl => ?_)
  refine lv_aload_n hx hb d_M_make_6 rfl (lv_at hl 1 rfl) ?_
  refine Mg_0_6 hx hb hB hown (hB _ m_867) hK hP d_M_make_7 ?_
  refine lv_iload hx hb d_M_make_10 (lv_at hl 0 rfl) ?_
  refine lv_iload_n hx hb d_M_make_12 rfl (lv_at hl 2 rfl) ?_
  obtain ⟨hi, h⟩ := ckb_some h
  obtain ⟨s1, es1, h⟩ := nm_some h
  refine Ms_5 es1 hx hb hK hP hD hS hi d_M_make_13 (fun H locs hP hD hS => ?_)
  refine lv_aload_n hx hb d_M_make_14 rfl (lv_at hl 1 rfl) ?_
  refine Mg_0_7 hx hb hB hown (hB _ m_868) hK hP d_M_make_15 ?_
  refine lv_iload hx hb d_M_make_18 (lv_at hl 0 rfl) ?_
  refine lv_iload_n hx hb d_M_make_20 rfl (lv_at hl 3 rfl) ?_
  obtain ⟨hi, h⟩ := ckb_some h
  obtain ⟨s2, es2, h⟩ := nm_some h
  refine Ms_6 es2 hx hb hK hP hD hS hi d_M_make_21 (fun H locs hP hD hS => ?_)
  refine lv_aload_n hx hb d_M_make_22 rfl (lv_at hl 1 rfl) ?_
  refine Mg_0_8 hx hb hB hown (hB _ m_869) hK hP d_M_make_23 ?_
  refine lv_iload hx hb d_M_make_26 (lv_at hl 0 rfl) ?_
  refine lv_iload_n hx hb d_M_make_28 rfl (lv_at hl 4 rfl) ?_
  obtain ⟨hi, h⟩ := ckb_some h
  obtain ⟨s3, es3, h⟩ := nm_some h
  refine Ms_7 es3 hx hb hK hP hD hS hi d_M_make_29 (fun H locs hP hD hS => ?_)
  refine lv_aload_n hx hb d_M_make_30 rfl (lv_at hl 1 rfl) ?_
  refine Mg_0_9 hx hb hB hown (hB _ m_870) hK hP d_M_make_31 ?_
  refine lv_iload hx hb d_M_make_34 (lv_at hl 0 rfl) ?_
  refine lv_lload hx hb d_M_make_36 (lv_at hl 5 rfl) ?_
  obtain ⟨hi, h⟩ := ckb_some h
  obtain ⟨s4, es4, h⟩ := nm_some h
  refine Ms_8 es4 hx hb hK hP hD hS hi d_M_make_38 (fun H locs hP hD hS => ?_)
  refine lv_aload_n hx hb d_M_make_39 rfl (lv_at hl 1 rfl) ?_
  refine Mg_0_10 hx hb hB hown (hB _ m_871) hK hP d_M_make_40 ?_
  refine lv_iload hx hb d_M_make_43 (lv_at hl 0 rfl) ?_
  refine lv_iload hx hb d_M_make_45 (lv_at hl 6 rfl) ?_
  obtain ⟨hi, h⟩ := ckb_some h
  obtain ⟨s5, es5, h⟩ := nm_some h
  refine Ms_9 es5 hx hb hK hP hD hS hi d_M_make_47 (fun H locs hP hD hS => ?_)
  refine lv_iload_n hx hb d_M_make_48 rfl (lv_at hl 2 rfl) ?_
  refine lv_bipush (v := (12 : Int32)) hx hb d_M_make_49 (by decide) ?_
  have L65 : ∀ (σ : St) (x1 : Int32) (x2 : Int32) (x3 : Int32) (x7 : Int32) (t0 : Int32) (H : Heap) (locs : List Loc) (ls : Array Slot), va_P D vCl (wM g ca a σ ++ tl) H → va_D A (wM g ca a σ ++ tl) → va_S A s.heap H locs → lv_has ls 10 [(0, .ref (a 0)), (1, .int x1), (2, .int x2), (3, .int x3), (7, .int x7)] → f_M_make_65 N σ x1 x2 x3 x7 t0 = some (r, σ') → W p l e R s m args below meth c H locs 0 0 (MQ below (qb_QI D vCl (tyM ca) (wM g ca a σ' ++ tl) A r) args s 0 0 A) (F0 m 65 ls [.int t0]) := by
    intro σ x1 x2 x3 x7 t0 H locs ls hP hD hS hl h
    unfold f_M_make_65 at h
    refine lv_istore (lv' := [(8, .int t0), (0, .ref (a 0)), (1, .int x1), (2, .int x2), (3, .int x3), (7, .int x7)]) hx hb d_M_make_65 hl (by decide) rfl (fun ls hl => ?_)
    refine lv_aload_n hx hb d_M_make_67 rfl (lv_at hl 1 rfl) ?_
    refine Mg_0_11 hx hb hB hown (hB _ m_872) hK hP d_M_make_68 ?_
    refine lv_iload hx hb d_M_make_71 (lv_at hl 5 rfl) ?_
    refine lv_iconst (v := (1 : Int32)) hx hb d_M_make_73 (by decide) ?_
    refine lv_iload hx hb d_M_make_74 (lv_at hl 0 rfl) ?_
    have L89 : ∀ (σ : St) (x1 : Int32) (x2 : Int32) (x3 : Int32) (x7 : Int32) (x8 : Int32) (t0 : Int32) (t1 : Int32) (t2 : Int32) (H : Heap) (locs : List Loc) (ls : Array Slot), va_P D vCl (wM g ca a σ ++ tl) H → va_D A (wM g ca a σ ++ tl) → va_S A s.heap H locs → lv_has ls 10 [(0, .ref (a 0)), (1, .int x1), (2, .int x2), (3, .int x3), (7, .int x7), (8, .int x8)] → f_M_make_89 N σ x1 x2 x3 x7 x8 t0 t1 t2 = some (r, σ') → W p l e R s m args below meth c H locs 0 0 (MQ below (qb_QI D vCl (tyM ca) (wM g ca a σ' ++ tl) A r) args s 0 0 A) (F0 m 89 ls [.int t0, .int t1, .int t2, .ref (a 10)]) := by
      intro σ x1 x2 x3 x7 x8 t0 t1 t2 H locs ls hP hD hS hl h
      unfold f_M_make_89 at h
      refine lv_iadd hx hb d_M_make_89 ?_
      refine lv_aload_n hx hb d_M_make_90 rfl (lv_at hl 0 rfl) ?_
      refine lv_iload_n hx hb d_M_make_91 rfl (lv_at hl 1 rfl) ?_
      obtain ⟨r6, s7, hr6, h⟩ := bd_some h
      refine go_VI (rest := [.int (t1 + t0), .int t2, .ref (a 10)]) ⟨hx, hb, hml, hown, hB⟩ nwM_ok (c_M_isTwo l D ca g a tl N σ s7 x1 r6 hr6) (cwx_V hB m_1053 kw_M_isTwo ⟨by rw [hR]; decide, by rw [hR]; decide⟩ rfl rfl) (va_recv hK hP (ci := 1) (q0 := 0) rfl rfl) hN hK hP hD hS hA rfl hl.1 rfl (Nat.le_of_ble_eq_true rfl) d_M_make_92 ⟨by rw [hR]; exact Nat.le_of_ble_eq_true rfl, by rw [hR]; exact Nat.le_of_ble_eq_true rfl⟩ (fun H locs hP hD hS => ?_)
      have L108 : ∀ (σ : St) (x1 : Int32) (x2 : Int32) (x3 : Int32) (x7 : Int32) (x8 : Int32) (t0 : Int32) (t1 : Int32) (t2 : Int32) (H : Heap) (locs : List Loc) (ls : Array Slot), va_P D vCl (wM g ca a σ ++ tl) H → va_D A (wM g ca a σ ++ tl) → va_S A s.heap H locs → lv_has ls 10 [(0, .ref (a 0)), (1, .int x1), (2, .int x2), (3, .int x3), (7, .int x7), (8, .int x8)] → f_M_make_108 N σ x1 x2 x3 x7 x8 t0 t1 t2 = some (r, σ') → W p l e R s m args below meth c H locs 0 0 (MQ below (qb_QI D vCl (tyM ca) (wM g ca a σ' ++ tl) A r) args s 0 0 A) (F0 m 108 ls [.int t0, .int t1, .int t2, .ref (a 10)]) := by
        intro σ x1 x2 x3 x7 x8 t0 t1 t2 H locs ls hP hD hS hl h
        unfold f_M_make_108 at h
        refine lv_iadd hx hb d_M_make_108 ?_
        obtain ⟨hi, h⟩ := ckb_some h
        obtain ⟨s8, es8, h⟩ := nm_some h
        refine Ms_10 es8 hx hb hK hP hD hS hi d_M_make_109 (fun H locs hP hD hS => ?_)
        refine lv_aload_n hx hb d_M_make_110 rfl (lv_at hl 0 rfl) ?_
        refine Mg_0_12 hx hb hB hown (hB _ m_873) hK hP d_M_make_111 ?_
        refine lv_iload hx hb d_M_make_114 (lv_at hl 4 rfl) ?_
        refine lv_iload_n hx hb d_M_make_116 rfl (lv_at hl 1 rfl) ?_
        refine lv_bipush (v := (30 : Int32)) hx hb d_M_make_117 (by decide) ?_
        have L158 : ∀ (σ : St) (x7 : Int32) (t0 : Int32) (t1 : Int32) (H : Heap) (locs : List Loc) (ls : Array Slot), va_P D vCl (wM g ca a σ ++ tl) H → va_D A (wM g ca a σ ++ tl) → va_S A s.heap H locs → lv_has ls 10 [(0, .ref (a 0)), (7, .int x7)] → f_M_make_158 N σ x7 t0 t1 = some (r, σ') → W p l e R s m args below meth c H locs 0 0 (MQ below (qb_QI D vCl (tyM ca) (wM g ca a σ' ++ tl) A r) args s 0 0 A) (F0 m 158 ls [.int t0, .int t1, .ref (a 11)]) := by
          intro σ x7 t0 t1 H locs ls hP hD hS hl h
          unfold f_M_make_158 at h
          obtain ⟨hi, h⟩ := ckb_some h
          obtain ⟨s9, es9, h⟩ := nm_some h
          refine Ms_11 es9 hx hb hK hP hD hS hi d_M_make_158 (fun H locs hP hD hS => ?_)
          refine lv_aload_n hx hb d_M_make_159 rfl (lv_at hl 0 rfl) ?_
          refine Mg_0_13 hx hb hB hown (hB _ m_874) hK hP d_M_make_160 ?_
          refine lv_iload hx hb d_M_make_163 (lv_at hl 1 rfl) ?_
          refine lv_iload hx hb d_M_make_165 (lv_at hl 1 rfl) ?_
          obtain ⟨hi, h⟩ := ckb_some h
          obtain ⟨s10, es10, h⟩ := nm_some h
          refine Ms_12 es10 hx hb hK hP hD hS hi d_M_make_167 (fun H locs hP hD hS => ?_)
          refine lv_iload hx hb d_M_make_168 (lv_at hl 1 rfl) ?_
          refine lv_iconst (v := (1 : Int32)) hx hb d_M_make_170 (by decide) ?_
          refine lv_isub hx hb d_M_make_171 ?_
          have L174 : ∀ (n : Nat) (σ : St) (x7 : Int32) (x9 : Int32) (H : Heap) (locs : List Loc) (ls : Array Slot), va_P D vCl (wM g ca a σ ++ tl) H → va_D A (wM g ca a σ ++ tl) → va_S A s.heap H locs → lv_has ls 10 [(0, .ref (a 0)), (7, .int x7), (9, .int x9)] → f_M_make_174 N n σ x7 x9 = some (r, σ') → W p l e R s m args below meth c H locs 0 0 (MQ below (qb_QI D vCl (tyM ca) (wM g ca a σ' ++ tl) A r) args s 0 0 A) (F0 m 174 ls []) := by
            intro n
            induction n with
            | zero => intro σ x7 x9 H locs ls hP hD hS hl h; cases h
            | succ n ih174 =>
                intro σ x7 x9 H locs ls hP hD hS hl h
                obtain ⟨K174, eK174⟩ : ∃ K, K = f_M_make_174 N n := ⟨_, rfl⟩
                rw [← eK174] at ih174
                replace h : f_M_make_174_b N K174 σ x7 x9 = some (r, σ') := by rw [eK174]; exact h
                unfold f_M_make_174_b at h
                refine lv_iload hx hb d_M_make_174 (lv_at hl 2 rfl) ?_
                refine lv_if_lt (tgt := 215) hx hb d_M_make_176 (by decide) (fun hc => ?_) (fun hc => ?_)
                · replace h := it_t h hc
                  refine lv_aload_n hx hb d_M_make_215 rfl (lv_at hl 0 rfl) ?_
                  refine lv_dup hx hb d_M_make_216 rfl ?_
                  refine Mg_0_5 hx hb hB hown (hB _ m_866) hK hP d_M_make_217 ?_
                  refine lv_iconst (v := (1 : Int32)) hx hb d_M_make_220 (by decide) ?_
                  refine lv_iadd hx hb d_M_make_221 ?_
                  obtain ⟨s11, es11, h⟩ := nm_some h
                  refine Mp_0_5 es11 hx hb hB hown (hB _ m_866) hK hP hD hS d_M_make_222 (fun H locs hP hD hS => ?_)
                  refine lv_iload hx hb d_M_make_225 (lv_at hl 1 rfl) ?_
                  exact rf_I (w := (fun z => wM g ca a z ++ tl)) h hx hb hr hlk hK hP hD hS d_M_make_227
                · replace h := it_f h hc
                  refine lv_aload_n hx hb d_M_make_179 rfl (lv_at hl 0 rfl) ?_
                  refine Mg_0_13 hx hb hB hown (hB _ m_874) hK hP d_M_make_180 ?_
                  refine lv_iload hx hb d_M_make_183 (lv_at hl 1 rfl) ?_
                  refine lv_aload_n hx hb d_M_make_185 rfl (lv_at hl 0 rfl) ?_
                  refine lv_iload hx hb d_M_make_186 (lv_at hl 2 rfl) ?_
                  refine lv_iload hx hb d_M_make_188 (lv_at hl 1 rfl) ?_
                  obtain ⟨r12, s13, hr12, h⟩ := bd_some h
                  refine go_VI (rest := [.int x7, .ref (a 12)]) ⟨hx, hb, hml, hown, hB⟩ nwM_ok (c_M_isLike l D ca g a tl N σ s13 x9 x7 r12 hr12) (cwx_V hB m_1057 kw_M_isLike ⟨by rw [hR]; decide, by rw [hR]; decide⟩ rfl rfl) (va_recv hK hP (ci := 1) (q0 := 0) rfl rfl) hN hK hP hD hS hA rfl hl.1 rfl (Nat.le_of_ble_eq_true rfl) d_M_make_190 ⟨by rw [hR]; exact Nat.le_of_ble_eq_true rfl, by rw [hR]; exact Nat.le_of_ble_eq_true rfl⟩ (fun H locs hP hD hS => ?_)
                  refine lv_if_eq (tgt := 201) hx hb d_M_make_193 (by decide) (fun hc => ?_) (fun hc => ?_)
                  · replace h := it_t h hc
                    refine lv_aload_n hx hb d_M_make_201 rfl (lv_at hl 0 rfl) ?_
                    refine Mg_0_13 hx hb hB hown (hB _ m_874) hK hP d_M_make_202 ?_
                    refine lv_iload hx hb d_M_make_205 (lv_at hl 1 rfl) ?_
                    obtain ⟨hi, h⟩ := ckb_some h
                    refine Ma_12 hx hb hK hP hi d_M_make_207 ?_
                    obtain ⟨hi, h⟩ := ckb_some h
                    obtain ⟨s14, es14, h⟩ := nm_some h
                    refine Ms_12 es14 hx hb hK hP hD hS hi d_M_make_208 (fun H locs hP hD hS => ?_)
                    refine lv_iinc (v := (x9 + Int32.ofInt (-1))) (lv' := [(9, .int (x9 + Int32.ofInt (-1))), (0, .ref (a 0)), (7, .int x7)]) hx hb d_M_make_209 hl (k := 2) rfl rfl (by decide) rfl (fun ls hl => ?_)
                    refine lv_goto (tgt := 174) hx hb d_M_make_212 (by decide) ?_
                    exact ih174 s14 x7 (x9 + Int32.ofInt (-1)) H locs ls hP hD hS (lv_sub hl [1, 2, 0] rfl) h
                  · replace h := it_f h hc
                    refine lv_iload hx hb d_M_make_196 (lv_at hl 2 rfl) ?_
                    refine lv_goto (tgt := 208) hx hb d_M_make_198 (by decide) ?_
                    obtain ⟨hi, h⟩ := ckb_some h
                    obtain ⟨s15, es15, h⟩ := nm_some h
                    refine Ms_12 es15 hx hb hK hP hD hS hi d_M_make_208 (fun H locs hP hD hS => ?_)
                    refine lv_iinc (v := (x9 + Int32.ofInt (-1))) (lv' := [(9, .int (x9 + Int32.ofInt (-1))), (0, .ref (a 0)), (7, .int x7)]) hx hb d_M_make_209 hl (k := 2) rfl rfl (by decide) rfl (fun ls hl => ?_)
                    refine lv_goto (tgt := 174) hx hb d_M_make_212 (by decide) ?_
                    exact ih174 s15 x7 (x9 + Int32.ofInt (-1)) H locs ls hP hD hS (lv_sub hl [1, 2, 0] rfl) h
          refine lv_istore (lv' := [(9, .int (x7 - (1 : Int32))), (0, .ref (a 0)), (7, .int x7)]) hx hb d_M_make_172 hl (by decide) rfl (fun ls hl => ?_)
          exact L174 N s10 x7 (x7 - (1 : Int32)) H locs ls hP hD hS (lv_sub hl [1, 2, 0] rfl) h
        have L153 : ∀ (σ : St) (x7 : Int32) (t0 : Int32) (H : Heap) (locs : List Loc) (ls : Array Slot), va_P D vCl (wM g ca a σ ++ tl) H → va_D A (wM g ca a σ ++ tl) → va_S A s.heap H locs → lv_has ls 10 [(0, .ref (a 0)), (7, .int x7)] → f_M_make_153 N σ x7 t0 = some (r, σ') → W p l e R s m args below meth c H locs 0 0 (MQ below (qb_QI D vCl (tyM ca) (wM g ca a σ' ++ tl) A r) args s 0 0 A) (F0 m 153 ls [.int t0, .ref (a 11)]) := by
          intro σ x7 t0 H locs ls hP hD hS hl h
          unfold f_M_make_153 at h
          refine lv_iconst (v := (1 : Int32)) hx hb d_M_make_153 (by decide) ?_
          refine lv_goto (tgt := 158) hx hb d_M_make_154 (by decide) ?_
          exact L158 σ x7 (1 : Int32) t0 H locs ls hP hD hS (lv_sub hl [0, 1] rfl) h
        refine lv_icmp_ge (tgt := 153) hx hb d_M_make_119 (by decide) (fun hc => ?_) (fun hc => ?_)
        · replace h := it_t h hc
          exact L153 s8 x7 x7 H locs ls hP hD hS (lv_sub hl [0, 4] rfl) h
        · replace h := it_f h hc
          refine lv_iload hx hb d_M_make_122 (lv_at hl 5 rfl) ?_
          have L136 : ∀ (σ : St) (x1 : Int32) (x3 : Int32) (x7 : Int32) (t0 : Int32) (H : Heap) (locs : List Loc) (ls : Array Slot), va_P D vCl (wM g ca a σ ++ tl) H → va_D A (wM g ca a σ ++ tl) → va_S A s.heap H locs → lv_has ls 10 [(0, .ref (a 0)), (1, .int x1), (3, .int x3), (7, .int x7)] → f_M_make_136 N σ x1 x3 x7 t0 = some (r, σ') → W p l e R s m args below meth c H locs 0 0 (MQ below (qb_QI D vCl (tyM ca) (wM g ca a σ' ++ tl) A r) args s 0 0 A) (F0 m 136 ls [.int t0, .ref (a 11)]) := by
            intro σ x1 x3 x7 t0 H locs ls hP hD hS hl h
            unfold f_M_make_136 at h
            refine lv_aload_n hx hb d_M_make_136 rfl (lv_at hl 0 rfl) ?_
            refine lv_iload_n hx hb d_M_make_137 rfl (lv_at hl 1 rfl) ?_
            obtain ⟨r16, s17, hr16, h⟩ := bd_some h
            refine go_VI (rest := [.int t0, .ref (a 11)]) ⟨hx, hb, hml, hown, hB⟩ nwM_ok (c_M_isTwo l D ca g a tl N σ s17 x1 r16 hr16) (cwx_V hB m_1053 kw_M_isTwo ⟨by rw [hR]; decide, by rw [hR]; decide⟩ rfl rfl) (va_recv hK hP (ci := 1) (q0 := 0) rfl rfl) hN hK hP hD hS hA rfl hl.1 rfl (Nat.le_of_ble_eq_true rfl) d_M_make_138 ⟨by rw [hR]; exact Nat.le_of_ble_eq_true rfl, by rw [hR]; exact Nat.le_of_ble_eq_true rfl⟩ (fun H locs hP hD hS => ?_)
            have L157 : ∀ (σ : St) (x7 : Int32) (t0 : Int32) (H : Heap) (locs : List Loc) (ls : Array Slot), va_P D vCl (wM g ca a σ ++ tl) H → va_D A (wM g ca a σ ++ tl) → va_S A s.heap H locs → lv_has ls 10 [(0, .ref (a 0)), (7, .int x7)] → f_M_make_157 N σ x7 t0 = some (r, σ') → W p l e R s m args below meth c H locs 0 0 (MQ below (qb_QI D vCl (tyM ca) (wM g ca a σ' ++ tl) A r) args s 0 0 A) (F0 m 157 ls [.int t0, .ref (a 11)]) := by
              intro σ x7 t0 H locs ls hP hD hS hl h
              unfold f_M_make_157 at h
              refine lv_iconst (v := (0 : Int32)) hx hb d_M_make_157 (by decide) ?_
              exact L158 σ x7 (0 : Int32) t0 H locs ls hP hD hS (lv_sub hl [0, 1] rfl) h
            refine lv_if_eq (tgt := 157) hx hb d_M_make_141 (by decide) (fun hc => ?_) (fun hc => ?_)
            · replace h := it_t h hc
              exact L157 s17 x7 t0 H locs ls hP hD hS (lv_sub hl [0, 3] rfl) h
            · replace h := it_f h hc
              refine lv_aload_n hx hb d_M_make_144 rfl (lv_at hl 0 rfl) ?_
              refine Mg_0_12 hx hb hB hown (hB _ m_873) hK hP d_M_make_145 ?_
              refine lv_iload_n hx hb d_M_make_148 rfl (lv_at hl 2 rfl) ?_
              obtain ⟨hi, h⟩ := ckb_some h
              refine Ma_11 hx hb hK hP hi d_M_make_149 ?_
              refine lv_if_eq (tgt := 157) hx hb d_M_make_150 (by decide) (fun hc => ?_) (fun hc => ?_)
              · replace h := it_t h hc
                exact L157 s17 x7 t0 H locs ls hP hD hS (lv_sub hl [0, 3] rfl) h
              · replace h := it_f h hc
                exact L153 s17 x7 t0 H locs ls hP hD hS (lv_sub hl [0, 3] rfl) h
          refine lv_if_eq (tgt := 136) hx hb d_M_make_124 (by decide) (fun hc => ?_) (fun hc => ?_)
          · replace h := it_t h hc
            exact L136 s8 x1 x3 x7 x7 H locs ls hP hD hS (lv_sub hl [0, 1, 3, 4] rfl) h
          · replace h := it_f h hc
            refine lv_aload_n hx hb d_M_make_127 rfl (lv_at hl 0 rfl) ?_
            refine Mg_0_12 hx hb hB hown (hB _ m_873) hK hP d_M_make_128 ?_
            refine lv_iload_n hx hb d_M_make_131 rfl (lv_at hl 2 rfl) ?_
            obtain ⟨hi, h⟩ := ckb_some h
            refine Ma_11 hx hb hK hP hi d_M_make_132 ?_
            refine lv_if_ne (tgt := 153) hx hb d_M_make_133 (by decide) (fun hc => ?_) (fun hc => ?_)
            · replace h := it_f h hc
              exact L153 s8 x7 x7 H locs ls hP hD hS (lv_sub hl [0, 4] rfl) h
            · replace h := it_t h hc
              exact L136 s8 x1 x3 x7 x7 H locs ls hP hD hS (lv_sub hl [0, 1, 3, 4] rfl) h
      refine lv_if_eq (tgt := 107) hx hb d_M_make_95 (by decide) (fun hc => ?_) (fun hc => ?_)
      · replace h := it_t h hc
        refine lv_iconst (v := (0 : Int32)) hx hb d_M_make_107 (by decide) ?_
        exact L108 s7 x1 x2 x3 x7 x8 (0 : Int32) (t1 + t0) t2 H locs ls hP hD hS (lv_sub hl [0, 1, 2, 3, 4, 5] rfl) h
      · replace h := it_f h hc
        refine lv_aload_n hx hb d_M_make_98 rfl (lv_at hl 0 rfl) ?_
        refine Mg_0_11 hx hb hB hown (hB _ m_872) hK hP d_M_make_99 ?_
        refine lv_iload_n hx hb d_M_make_102 rfl (lv_at hl 3 rfl) ?_
        obtain ⟨hi, h⟩ := ckb_some h
        refine Ma_10 hx hb hK hP hi d_M_make_103 ?_
        refine lv_goto (tgt := 108) hx hb d_M_make_104 (by decide) ?_
        exact L108 s7 x1 x2 x3 x7 x8 (ga s7 7 (x3).toNatClampNeg) (t1 + t0) t2 H locs ls hP hD hS (lv_sub hl [0, 1, 2, 3, 4, 5] rfl) h
    refine lv_if_eq (tgt := 88) hx hb d_M_make_76 (by decide) (fun hc => ?_) (fun hc => ?_)
    · replace h := it_t h hc
      refine lv_iconst (v := (0 : Int32)) hx hb d_M_make_88 (by decide) ?_
      exact L89 σ x1 x2 x3 x7 t0 (0 : Int32) (1 : Int32) x7 H locs ls hP hD hS (lv_sub hl [1, 2, 3, 4, 5, 0] rfl) h
    · replace h := it_f h hc
      refine lv_aload_n hx hb d_M_make_79 rfl (lv_at hl 1 rfl) ?_
      refine Mg_0_11 hx hb hB hown (hB _ m_872) hK hP d_M_make_80 ?_
      refine lv_iload_n hx hb d_M_make_83 rfl (lv_at hl 3 rfl) ?_
      obtain ⟨hi, h⟩ := ckb_some h
      refine Ma_10 hx hb hK hP hi d_M_make_84 ?_
      refine lv_goto (tgt := 89) hx hb d_M_make_85 (by decide) ?_
      exact L89 σ x1 x2 x3 x7 t0 (ga σ 7 (x2).toNatClampNeg) (1 : Int32) x7 H locs ls hP hD hS (lv_sub hl [1, 2, 3, 4, 5, 0] rfl) h
  have L60 : ∀ (σ : St) (x1 : Int32) (x2 : Int32) (x3 : Int32) (x7 : Int32) (H : Heap) (locs : List Loc) (ls : Array Slot), va_P D vCl (wM g ca a σ ++ tl) H → va_D A (wM g ca a σ ++ tl) → va_S A s.heap H locs → lv_has ls 10 [(0, .ref (a 0)), (1, .int x1), (2, .int x2), (3, .int x3), (7, .int x7)] → f_M_make_60 N σ x1 x2 x3 x7 = some (r, σ') → W p l e R s m args below meth c H locs 0 0 (MQ below (qb_QI D vCl (tyM ca) (wM g ca a σ' ++ tl) A r) args s 0 0 A) (F0 m 60 ls []) := by
    intro σ x1 x2 x3 x7 H locs ls hP hD hS hl h
    unfold f_M_make_60 at h
    refine lv_iconst (v := (1 : Int32)) hx hb d_M_make_60 (by decide) ?_
    refine lv_goto (tgt := 65) hx hb d_M_make_61 (by decide) ?_
    exact L65 σ x1 x2 x3 x7 (1 : Int32) H locs ls hP hD hS (lv_sub hl [0, 1, 2, 3, 4] rfl) h
  refine lv_icmp_le (tgt := 60) hx hb d_M_make_51 (by decide) (fun hc => ?_) (fun hc => ?_)
  · replace h := it_t h hc
    exact L60 s5 x1 x2 x3 (gi σ 1) H locs ls hP hD hS (lv_sub hl [1, 2, 3, 4, 0] rfl) h
  · replace h := it_f h hc
    refine lv_iload_n hx hb d_M_make_54 rfl (lv_at hl 2 rfl) ?_
    refine lv_bipush (v := (30 : Int32)) hx hb d_M_make_55 (by decide) ?_
    refine lv_icmp_lt (tgt := 64) hx hb d_M_make_57 (by decide) (fun hc => ?_) (fun hc => ?_)
    · replace h := it_t h hc
      refine lv_iconst (v := (0 : Int32)) hx hb d_M_make_64 (by decide) ?_
      exact L65 s5 x1 x2 x3 (gi σ 1) (0 : Int32) H locs ls hP hD hS (lv_sub hl [1, 2, 3, 4, 0] rfl) h
    · replace h := it_f h hc
      exact L60 s5 x1 x2 x3 (gi σ 1) H locs ls hP hD hS (lv_sub hl [1, 2, 3, 4, 0] rfl) h
