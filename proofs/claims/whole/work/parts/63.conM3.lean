set_option maxRecDepth 100000 in
set_option maxHeartbeats 4000000 in
theorem c_M_giveAggregate (l : Launch) (D : va_G) (ca : Nat → ClassId) (g : Bool) (a : Nat → Nat) (tl : va_W) (N : Nat) (σ σ' : St) (x1 : Int32) (h : f_M_giveAggregate N σ x1 = some ((), σ')) : CtV l y_M_giveAggregate ws_M_giveAggregate rm_M_giveAggregate 0 0 D vCl (tyM ca) nwM [.ref (a 0), .int x1] (wM g ca a σ ++ tl) (wM g ca a σ' ++ tl) := by
  refine en_V (ws' := BIG) (by decide +kernel) rfl (Nat.le_of_ble_eq_true rfl) ?_
  intro p e s m below meth c A ls R args H locs hR hx hb hr hlk hml hown hB hK hN hP hD hA hS hl
  have hl : lv_has ls 17 [(0, .ref (a 0)), (1, .int x1)] := hl
  unfold f_M_giveAggregate at h
  refine lv_aload_n hx hb d_M_giveAggregate_0 rfl (lv_at hl 0 rfl) ?_
  refine lv_iload_n hx hb d_M_giveAggregate_1 rfl (lv_at hl 1 rfl) ?_
  obtain ⟨r1, s2, hr1, h⟩ := bd_some h
  refine go_VI (rest := []) ⟨hx, hb, hml, hown, hB⟩ nwM_ok (c_M_aggregateNumber l D ca g a tl N σ s2 x1 r1 hr1) (cwx_V hB m_1186 kw_M_aggregateNumber ⟨by rw [hR]; decide, by rw [hR]; decide⟩ rfl rfl) (va_recv hK hP (ci := 1) (q0 := 0) rfl rfl) hN hK hP hD hS hA rfl hl.1 rfl (Nat.le_of_ble_eq_true rfl) d_M_giveAggregate_2 ⟨by rw [hR]; exact Nat.le_of_ble_eq_true rfl, by rw [hR]; exact Nat.le_of_ble_eq_true rfl⟩ (fun H locs hP hD hS => ?_)
  refine lv_istore_n (lv' := [(2, .int r1), (0, .ref (a 0)), (1, .int x1)]) hx hb d_M_giveAggregate_5 rfl hl (by decide) rfl (fun ls hl => ?_)
  refine lv_aload_n hx hb d_M_giveAggregate_6 rfl (lv_at hl 1 rfl) ?_
  refine Mg_0_6 hx hb hB hown (hB _ m_867) hK hP d_M_giveAggregate_7 ?_
  refine lv_iload_n hx hb d_M_giveAggregate_10 rfl (lv_at hl 2 rfl) ?_
  obtain ⟨hi, h⟩ := ckb_some h
  refine Ma_5 hx hb hK hP hi d_M_giveAggregate_11 ?_
  refine lv_bipush (v := (30 : Int32)) hx hb d_M_giveAggregate_12 (by decide) ?_
  refine lv_isub hx hb d_M_giveAggregate_14 ?_
  refine lv_istore_n (lv' := [(3, .int ((ga s2 3 (x1).toNatClampNeg) - (30 : Int32))), (2, .int r1), (0, .ref (a 0)), (1, .int x1)]) hx hb d_M_giveAggregate_15 rfl hl (by decide) rfl (fun ls hl => ?_)
  refine lv_lconst (v := (0 : Int64)) hx hb d_M_giveAggregate_16 (by decide) ?_
  refine lv_lstore (lv' := [(4, .long (0 : Int64)), (3, .int ((ga s2 3 (x1).toNatClampNeg) - (30 : Int32))), (2, .int r1), (0, .ref (a 0)), (1, .int x1)]) hx hb d_M_giveAggregate_17 hl (by decide) rfl (fun ls hl => ?_)
  refine lv_lconst (v := (0 : Int64)) hx hb d_M_giveAggregate_19 (by decide) ?_
  refine lv_lstore (lv' := [(6, .long (0 : Int64)), (4, .long (0 : Int64)), (3, .int ((ga s2 3 (x1).toNatClampNeg) - (30 : Int32))), (2, .int r1), (0, .ref (a 0)), (1, .int x1)]) hx hb d_M_giveAggregate_20 hl (by decide) rfl (fun ls hl => ?_)
  refine lv_lconst (v := (0 : Int64)) hx hb d_M_giveAggregate_22 (by decide) ?_
  refine lv_lstore (lv' := [(8, .long (0 : Int64)), (6, .long (0 : Int64)), (4, .long (0 : Int64)), (3, .int ((ga s2 3 (x1).toNatClampNeg) - (30 : Int32))), (2, .int r1), (0, .ref (a 0)), (1, .int x1)]) hx hb d_M_giveAggregate_23 hl (by decide) rfl (fun ls hl => ?_)
  refine lv_lconst (v := (0 : Int64)) hx hb d_M_giveAggregate_25 (by decide) ?_
  refine lv_lstore (lv' := [(10, .long (0 : Int64)), (8, .long (0 : Int64)), (6, .long (0 : Int64)), (4, .long (0 : Int64)), (3, .int ((ga s2 3 (x1).toNatClampNeg) - (30 : Int32))), (2, .int r1), (0, .ref (a 0)), (1, .int x1)]) hx hb d_M_giveAggregate_26 hl (by decide) rfl (fun ls hl => ?_)
  refine lv_lconst (v := (0 : Int64)) hx hb d_M_giveAggregate_28 (by decide) ?_
  refine lv_lstore (lv' := [(12, .long (0 : Int64)), (10, .long (0 : Int64)), (8, .long (0 : Int64)), (6, .long (0 : Int64)), (4, .long (0 : Int64)), (3, .int ((ga s2 3 (x1).toNatClampNeg) - (30 : Int32))), (2, .int r1), (0, .ref (a 0)), (1, .int x1)]) hx hb d_M_giveAggregate_29 hl (by decide) rfl (fun ls hl => ?_)
  refine lv_iconst (v := (0 : Int32)) hx hb d_M_giveAggregate_31 (by decide) ?_
  have L34 : ∀ (n : Nat) (σ : St) (x2 : Int32) (x3 : Int32) (x4 : Int64) (x6 : Int64) (x8 : Int64) (x10 : Int64) (x12 : Int64) (x14 : Int32) (H : Heap) (locs : List Loc) (ls : Array Slot), va_P D vCl (wM g ca a σ ++ tl) H → va_D A (wM g ca a σ ++ tl) → va_S A s.heap H locs → lv_has ls 17 [(0, .ref (a 0)), (2, .int x2), (3, .int x3), (4, .long x4), (6, .long x6), (8, .long x8), (10, .long x10), (12, .long x12), (14, .int x14)] → f_M_giveAggregate_34 N n σ x2 x3 x4 x6 x8 x10 x12 x14 = some ((), σ') → W p l e R s m args below meth c H locs 0 0 (MQ below (qb_QV D vCl (tyM ca) (wM g ca a σ' ++ tl) A) args s 0 0 A) (F0 m 34 ls []) := by
    intro n
    induction n with
    | zero => intro σ x2 x3 x4 x6 x8 x10 x12 x14 H locs ls hP hD hS hl h; cases h
    | succ n ih34 =>
        intro σ x2 x3 x4 x6 x8 x10 x12 x14 H locs ls hP hD hS hl h
        obtain ⟨K34, eK34⟩ : ∃ K, K = f_M_giveAggregate_34 N n := ⟨_, rfl⟩
        rw [← eK34] at ih34
        replace h : f_M_giveAggregate_34_b N K34 σ x2 x3 x4 x6 x8 x10 x12 x14 = some ((), σ') := by rw [eK34]; exact h
        unfold f_M_giveAggregate_34_b at h
        refine lv_iload hx hb d_M_giveAggregate_34 (lv_at hl 8 rfl) ?_
        refine lv_aload_n hx hb d_M_giveAggregate_36 rfl (lv_at hl 0 rfl) ?_
        refine Mg_0_39 hx hb hB hown (hB _ m_900) hK hP d_M_giveAggregate_37 ?_
        refine lv_icmp_ge (tgt := 161) hx hb d_M_giveAggregate_40 (by decide) (fun hc => ?_) (fun hc => ?_)
        · replace h := it_t h hc
          refine lv_iload_n hx hb d_M_giveAggregate_161 rfl (lv_at hl 2 rfl) ?_
          refine lv_iconst (v := (2 : Int32)) hx hb d_M_giveAggregate_162 (by decide) ?_
          refine lv_icmp_ge (tgt := 183) hx hb d_M_giveAggregate_163 (by decide) (fun hc => ?_) (fun hc => ?_)
          · replace h := it_t h hc
            refine lv_lload hx hb d_M_giveAggregate_183 (lv_at hl 4 rfl) ?_
            refine lv_lconst (v := (0 : Int64)) hx hb d_M_giveAggregate_185 (by decide) ?_
            refine W.lcmp hx hb d_M_giveAggregate_186 ?_
            have L195 : ∀ (σ : St) (x3 : Int32) (x6 : Int64) (x8 : Int64) (x10 : Int64) (x12 : Int64) (t0 : Int32) (H : Heap) (locs : List Loc) (ls : Array Slot), va_P D vCl (wM g ca a σ ++ tl) H → va_D A (wM g ca a σ ++ tl) → va_S A s.heap H locs → lv_has ls 17 [(0, .ref (a 0)), (3, .int x3), (6, .long x6), (8, .long x8), (10, .long x10), (12, .long x12)] → f_M_giveAggregate_195 N σ x3 x6 x8 x10 x12 t0 = some ((), σ') → W p l e R s m args below meth c H locs 0 0 (MQ below (qb_QV D vCl (tyM ca) (wM g ca a σ' ++ tl) A) args s 0 0 A) (F0 m 195 ls [.int t0]) := by
              intro σ x3 x6 x8 x10 x12 t0 H locs ls hP hD hS hl h
              unfold f_M_giveAggregate_195 at h
              refine lv_istore (lv' := [(14, .int t0), (0, .ref (a 0)), (3, .int x3), (6, .long x6), (8, .long x8), (10, .long x10), (12, .long x12)]) hx hb d_M_giveAggregate_195 hl (by decide) rfl (fun ls hl => ?_)
              refine lv_iload hx hb d_M_giveAggregate_197 (lv_at hl 0 rfl) ?_
              have L241 : ∀ (σ : St) (x14 : Int32) (t0 : Int64) (H : Heap) (locs : List Loc) (ls : Array Slot), va_P D vCl (wM g ca a σ ++ tl) H → va_D A (wM g ca a σ ++ tl) → va_S A s.heap H locs → lv_has ls 17 [(0, .ref (a 0)), (14, .int x14)] → f_M_giveAggregate_241 N σ x14 t0 = some ((), σ') → W p l e R s m args below meth c H locs 0 0 (MQ below (qb_QV D vCl (tyM ca) (wM g ca a σ' ++ tl) A) args s 0 0 A) (F0 m 241 ls [.long t0]) := by
                intro σ x14 t0 H locs ls hP hD hS hl h
                unfold f_M_giveAggregate_241 at h
                refine lv_lstore (lv' := [(15, .long t0), (0, .ref (a 0)), (14, .int x14)]) hx hb d_M_giveAggregate_241 hl (by decide) rfl (fun ls hl => ?_)
                refine lv_aload_n hx hb d_M_giveAggregate_243 rfl (lv_at hl 1 rfl) ?_
                refine lv_lload hx hb d_M_giveAggregate_244 (lv_at hl 0 rfl) ?_
                refine lv_iload hx hb d_M_giveAggregate_246 (lv_at hl 2 rfl) ?_
                obtain ⟨r3, s4, hr3, h⟩ := bd_some h
                cases r3
                refine go_VV (rest := []) ⟨hx, hb, hml, hown, hB⟩ nwM_ok (c_M_give l D ca g a tl N σ s4 t0 x14 hr3) (cwx_V hB m_1174 kw_M_give ⟨by rw [hR]; decide, by rw [hR]; decide⟩ rfl rfl) (va_recv hK hP (ci := 1) (q0 := 0) rfl rfl) hN hK hP hD hS hA rfl hl.1 rfl (Nat.le_of_ble_eq_true rfl) d_M_giveAggregate_248 ⟨by rw [hR]; exact Nat.le_of_ble_eq_true rfl, by rw [hR]; exact Nat.le_of_ble_eq_true rfl⟩ (fun H locs hP hD hS => ?_)
                exact rf_V (w := (fun z => wM g ca a z ++ tl)) h hx hb hr hlk hK hP hD hS d_M_giveAggregate_251
              refine lv_if_eq (tgt := 206) hx hb d_M_giveAggregate_199 (by decide) (fun hc => ?_) (fun hc => ?_)
              · replace h := it_t h hc
                refine lv_iload_n hx hb d_M_giveAggregate_206 rfl (lv_at hl 2 rfl) ?_
                refine lv_iconst (v := (2 : Int32)) hx hb d_M_giveAggregate_207 (by decide) ?_
                refine lv_icmp_ne (tgt := 216) hx hb d_M_giveAggregate_208 (by decide) (fun hc => ?_) (fun hc => ?_)
                · replace h := it_f h hc
                  refine lv_iload_n hx hb d_M_giveAggregate_216 rfl (lv_at hl 2 rfl) ?_
                  refine lv_iconst (v := (3 : Int32)) hx hb d_M_giveAggregate_217 (by decide) ?_
                  refine lv_icmp_ne (tgt := 226) hx hb d_M_giveAggregate_218 (by decide) (fun hc => ?_) (fun hc => ?_)
                  · replace h := it_f h hc
                    refine lv_iload_n hx hb d_M_giveAggregate_226 rfl (lv_at hl 2 rfl) ?_
                    refine lv_iconst (v := (4 : Int32)) hx hb d_M_giveAggregate_227 (by decide) ?_
                    refine lv_icmp_ne (tgt := 236) hx hb d_M_giveAggregate_228 (by decide) (fun hc => ?_) (fun hc => ?_)
                    · replace h := it_f h hc
                      refine lv_lload hx hb d_M_giveAggregate_236 (lv_at hl 4 rfl) ?_
                      refine lv_lload hx hb d_M_giveAggregate_238 (lv_at hl 3 rfl) ?_
                      obtain ⟨hi, h⟩ := ckzl_some h
                      refine lv_ldiv hx hb d_M_giveAggregate_240 hi ?_
                      exact L241 σ t0 (x8 / x6) H locs ls hP hD hS (lv_sub hl [1, 0] rfl) h
                    · replace h := it_t h hc
                      refine lv_lload hx hb d_M_giveAggregate_231 (lv_at hl 6 rfl) ?_
                      refine lv_goto (tgt := 241) hx hb d_M_giveAggregate_233 (by decide) ?_
                      exact L241 σ t0 x12 H locs ls hP hD hS (lv_sub hl [1, 0] rfl) h
                  · replace h := it_t h hc
                    refine lv_lload hx hb d_M_giveAggregate_221 (lv_at hl 5 rfl) ?_
                    refine lv_goto (tgt := 241) hx hb d_M_giveAggregate_223 (by decide) ?_
                    exact L241 σ t0 x10 H locs ls hP hD hS (lv_sub hl [1, 0] rfl) h
                · replace h := it_t h hc
                  refine lv_lload hx hb d_M_giveAggregate_211 (lv_at hl 4 rfl) ?_
                  refine lv_goto (tgt := 241) hx hb d_M_giveAggregate_213 (by decide) ?_
                  exact L241 σ t0 x8 H locs ls hP hD hS (lv_sub hl [1, 0] rfl) h
              · replace h := it_f h hc
                refine lv_lconst (v := (0 : Int64)) hx hb d_M_giveAggregate_202 (by decide) ?_
                refine lv_goto (tgt := 241) hx hb d_M_giveAggregate_203 (by decide) ?_
                exact L241 σ t0 (0 : Int64) H locs ls hP hD hS (lv_sub hl [1, 0] rfl) h
            refine lv_if_ne (tgt := 194) hx hb d_M_giveAggregate_187 (by decide) (fun hc => ?_) (fun hc => ?_)
            · replace h := it_f h hc
              refine lv_iconst (v := (0 : Int32)) hx hb d_M_giveAggregate_194 (by decide) ?_
              exact L195 σ x3 x6 x8 x10 x12 (0 : Int32) H locs ls hP hD hS (lv_sub hl [0, 2, 4, 5, 6, 7] rfl) h
            · replace h := it_t h hc
              refine lv_iconst (v := (1 : Int32)) hx hb d_M_giveAggregate_190 (by decide) ?_
              refine lv_goto (tgt := 195) hx hb d_M_giveAggregate_191 (by decide) ?_
              exact L195 σ x3 x6 x8 x10 x12 (1 : Int32) H locs ls hP hD hS (lv_sub hl [0, 2, 4, 5, 6, 7] rfl) h
          · replace h := it_f h hc
            refine lv_aload_n hx hb d_M_giveAggregate_166 rfl (lv_at hl 0 rfl) ?_
            refine lv_iload_n hx hb d_M_giveAggregate_167 rfl (lv_at hl 2 rfl) ?_
            have L178 : ∀ (σ : St) (t0 : Int64) (H : Heap) (locs : List Loc) (ls : Array Slot), va_P D vCl (wM g ca a σ ++ tl) H → va_D A (wM g ca a σ ++ tl) → va_S A s.heap H locs → lv_has ls 17 [] → f_M_giveAggregate_178 N σ t0 = some ((), σ') → W p l e R s m args below meth c H locs 0 0 (MQ below (qb_QV D vCl (tyM ca) (wM g ca a σ' ++ tl) A) args s 0 0 A) (F0 m 178 ls [.long t0, .ref (a 0)]) := by
              intro σ t0 H locs ls hP hD hS hl h
              unfold f_M_giveAggregate_178 at h
              refine lv_iconst (v := (0 : Int32)) hx hb d_M_giveAggregate_178 (by decide) ?_
              obtain ⟨r5, s6, hr5, h⟩ := bd_some h
              cases r5
              refine go_VV (rest := []) ⟨hx, hb, hml, hown, hB⟩ nwM_ok (c_M_give l D ca g a tl N σ s6 t0 (0 : Int32) hr5) (cwx_V hB m_1174 kw_M_give ⟨by rw [hR]; decide, by rw [hR]; decide⟩ rfl rfl) (va_recv hK hP (ci := 1) (q0 := 0) rfl rfl) hN hK hP hD hS hA rfl hl.1 rfl (Nat.le_of_ble_eq_true rfl) d_M_giveAggregate_179 ⟨by rw [hR]; exact Nat.le_of_ble_eq_true rfl, by rw [hR]; exact Nat.le_of_ble_eq_true rfl⟩ (fun H locs hP hD hS => ?_)
              exact rf_V (w := (fun z => wM g ca a z ++ tl)) h hx hb hr hlk hK hP hD hS d_M_giveAggregate_182
            refine lv_if_ne (tgt := 176) hx hb d_M_giveAggregate_168 (by decide) (fun hc => ?_) (fun hc => ?_)
            · replace h := it_f h hc
              refine lv_lload hx hb d_M_giveAggregate_176 (lv_at hl 4 rfl) ?_
              exact L178 σ x6 H locs ls hP hD hS (lv_sub hl [] rfl) h
            · replace h := it_t h hc
              refine lv_lload hx hb d_M_giveAggregate_171 (lv_at hl 3 rfl) ?_
              refine lv_goto (tgt := 178) hx hb d_M_giveAggregate_173 (by decide) ?_
              exact L178 σ x4 H locs ls hP hD hS (lv_sub hl [] rfl) h
        · replace h := it_f h hc
          refine lv_aload_n hx hb d_M_giveAggregate_43 rfl (lv_at hl 0 rfl) ?_
          refine Mg_0_40 hx hb hB hown (hB _ m_901) hK hP d_M_giveAggregate_44 ?_
          refine lv_iload hx hb d_M_giveAggregate_47 (lv_at hl 8 rfl) ?_
          obtain ⟨hi, h⟩ := ckb_some h
          refine Ma_24 hx hb hK hP hi d_M_giveAggregate_49 ?_
          refine lv_aload_n hx hb d_M_giveAggregate_50 rfl (lv_at hl 0 rfl) ?_
          refine Mg_0_48 hx hb hB hown (hB _ m_909) hK hP d_M_giveAggregate_51 ?_
          refine lv_icmp_eq (tgt := 60) hx hb d_M_giveAggregate_54 (by decide) (fun hc => ?_) (fun hc => ?_)
          · replace h := it_t h hc
            refine lv_lload hx hb d_M_giveAggregate_60 (lv_at hl 3 rfl) ?_
            refine lv_lconst (v := (1 : Int64)) hx hb d_M_giveAggregate_62 (by decide) ?_
            refine lv_ladd hx hb d_M_giveAggregate_63 ?_
            refine lv_lstore (lv' := [(4, .long (x4 + (1 : Int64))), (0, .ref (a 0)), (2, .int x2), (3, .int x3), (6, .long x6), (8, .long x8), (10, .long x10), (12, .long x12), (14, .int x14)]) hx hb d_M_giveAggregate_64 hl (by decide) rfl (fun ls hl => ?_)
            refine lv_iload_n hx hb d_M_giveAggregate_66 rfl (lv_at hl 3 rfl) ?_
            refine lv_if_le (tgt := 155) hx hb d_M_giveAggregate_67 (by decide) (fun hc => ?_) (fun hc => ?_)
            · replace h := it_t h hc
              refine lv_iinc (v := (x14 + 1)) (lv' := [(14, .int (x14 + 1)), (4, .long (x4 + (1 : Int64))), (0, .ref (a 0)), (2, .int x2), (3, .int x3), (6, .long x6), (8, .long x8), (10, .long x10), (12, .long x12)]) hx hb d_M_giveAggregate_155 hl (k := 8) rfl rfl (by decide) rfl (fun ls hl => ?_)
              refine lv_goto (tgt := 34) hx hb d_M_giveAggregate_158 (by decide) ?_
              exact ih34 σ x2 x3 (x4 + (1 : Int64)) x6 x8 x10 x12 (x14 + 1) H locs ls hP hD hS (lv_sub hl [2, 3, 4, 1, 5, 6, 7, 8, 0] rfl) h
            · replace h := it_f h hc
              refine lv_aload_n hx hb d_M_giveAggregate_70 rfl (lv_at hl 1 rfl) ?_
              refine lv_iload hx hb d_M_giveAggregate_71 (lv_at hl 8 rfl) ?_
              refine lv_iload_n hx hb d_M_giveAggregate_73 rfl (lv_at hl 2 rfl) ?_
              obtain ⟨r7, s8, hr7, h⟩ := bd_some h
              refine go_VI (rest := []) ⟨hx, hb, hml, hown, hB⟩ nwM_ok (c_M_countsIn l D ca g a tl N σ s8 x14 x2 r7 hr7) (cwx_V hB m_1190 kw_M_countsIn ⟨by rw [hR]; decide, by rw [hR]; decide⟩ rfl rfl) (va_recv hK hP (ci := 1) (q0 := 0) rfl rfl) hN hK hP hD hS hA rfl hl.1 rfl (Nat.le_of_ble_eq_true rfl) d_M_giveAggregate_74 ⟨by rw [hR]; exact Nat.le_of_ble_eq_true rfl, by rw [hR]; exact Nat.le_of_ble_eq_true rfl⟩ (fun H locs hP hD hS => ?_)
              refine lv_if_eq (tgt := 155) hx hb d_M_giveAggregate_77 (by decide) (fun hc => ?_) (fun hc => ?_)
              · replace h := it_t h hc
                refine lv_iinc (v := (x14 + 1)) (lv' := [(14, .int (x14 + 1)), (4, .long (x4 + (1 : Int64))), (0, .ref (a 0)), (2, .int x2), (3, .int x3), (6, .long x6), (8, .long x8), (10, .long x10), (12, .long x12)]) hx hb d_M_giveAggregate_155 hl (k := 8) rfl rfl (by decide) rfl (fun ls hl => ?_)
                refine lv_goto (tgt := 34) hx hb d_M_giveAggregate_158 (by decide) ?_
                exact ih34 s8 x2 x3 (x4 + (1 : Int64)) x6 x8 x10 x12 (x14 + 1) H locs ls hP hD hS (lv_sub hl [2, 3, 4, 1, 5, 6, 7, 8, 0] rfl) h
              · replace h := it_f h hc
                refine lv_aload_n hx hb d_M_giveAggregate_80 rfl (lv_at hl 1 rfl) ?_
                refine Mg_0_41 hx hb hB hown (hB _ m_902) hK hP d_M_giveAggregate_81 ?_
                refine lv_bipush (v := (8 : Int32)) hx hb d_M_giveAggregate_84 (by decide) ?_
                refine lv_iload hx hb d_M_giveAggregate_86 (lv_at hl 8 rfl) ?_
                refine lv_imul hx hb d_M_giveAggregate_88 ?_
                refine lv_iload_n hx hb d_M_giveAggregate_89 rfl (lv_at hl 2 rfl) ?_
                refine lv_iadd hx hb d_M_giveAggregate_90 ?_
                obtain ⟨hi, h⟩ := ckb_some h
                refine Ma_25 hx hb hK hP hi d_M_giveAggregate_91 ?_
                refine lv_lstore (lv' := [(15, .long (gb s8 3 ((((8 : Int32) * x14) + x2)).toNatClampNeg)), (4, .long (x4 + (1 : Int64))), (0, .ref (a 0)), (2, .int x2), (3, .int x3), (6, .long x6), (8, .long x8), (10, .long x10), (12, .long x12), (14, .int x14)]) hx hb d_M_giveAggregate_92 hl (by decide) rfl (fun ls hl => ?_)
                refine lv_lload hx hb d_M_giveAggregate_94 (lv_at hl 5 rfl) ?_
                refine lv_lconst (v := (0 : Int64)) hx hb d_M_giveAggregate_96 (by decide) ?_
                refine W.lcmp hx hb d_M_giveAggregate_97 ?_
                have L116 : ∀ (σ : St) (x2 : Int32) (x3 : Int32) (x4 : Int64) (x6 : Int64) (x8 : Int64) (x12 : Int64) (x14 : Int32) (x15 : Int64) (t0 : Int64) (H : Heap) (locs : List Loc) (ls : Array Slot), va_P D vCl (wM g ca a σ ++ tl) H → va_D A (wM g ca a σ ++ tl) → va_S A s.heap H locs → lv_has ls 17 [(0, .ref (a 0)), (2, .int x2), (3, .int x3), (4, .long x4), (6, .long x6), (8, .long x8), (12, .long x12), (14, .int x14), (15, .long x15)] → f_M_giveAggregate_116 N K34 σ x2 x3 x4 x6 x8 x12 x14 x15 t0 = some ((), σ') → W p l e R s m args below meth c H locs 0 0 (MQ below (qb_QV D vCl (tyM ca) (wM g ca a σ' ++ tl) A) args s 0 0 A) (F0 m 116 ls [.long t0]) := by
                  intro σ x2 x3 x4 x6 x8 x12 x14 x15 t0 H locs ls hP hD hS hl h
                  unfold f_M_giveAggregate_116 at h
                  refine lv_lstore (lv' := [(10, .long t0), (0, .ref (a 0)), (2, .int x2), (3, .int x3), (4, .long x4), (6, .long x6), (8, .long x8), (12, .long x12), (14, .int x14), (15, .long x15)]) hx hb d_M_giveAggregate_116 hl (by decide) rfl (fun ls hl => ?_)
                  refine lv_lload hx hb d_M_giveAggregate_118 (lv_at hl 5 rfl) ?_
                  refine lv_lconst (v := (0 : Int64)) hx hb d_M_giveAggregate_120 (by decide) ?_
                  refine W.lcmp hx hb d_M_giveAggregate_121 ?_
                  have L140 : ∀ (σ : St) (x2 : Int32) (x3 : Int32) (x4 : Int64) (x6 : Int64) (x8 : Int64) (x10 : Int64) (x14 : Int32) (x15 : Int64) (t0 : Int64) (H : Heap) (locs : List Loc) (ls : Array Slot), va_P D vCl (wM g ca a σ ++ tl) H → va_D A (wM g ca a σ ++ tl) → va_S A s.heap H locs → lv_has ls 17 [(0, .ref (a 0)), (2, .int x2), (3, .int x3), (4, .long x4), (6, .long x6), (8, .long x8), (10, .long x10), (14, .int x14), (15, .long x15)] → f_M_giveAggregate_140 N K34 σ x2 x3 x4 x6 x8 x10 x14 x15 t0 = some ((), σ') → W p l e R s m args below meth c H locs 0 0 (MQ below (qb_QV D vCl (tyM ca) (wM g ca a σ' ++ tl) A) args s 0 0 A) (F0 m 140 ls [.long t0]) := by
                    intro σ x2 x3 x4 x6 x8 x10 x14 x15 t0 H locs ls hP hD hS hl h
                    unfold f_M_giveAggregate_140 at h
                    refine lv_lstore (lv' := [(12, .long t0), (0, .ref (a 0)), (2, .int x2), (3, .int x3), (4, .long x4), (6, .long x6), (8, .long x8), (10, .long x10), (14, .int x14), (15, .long x15)]) hx hb d_M_giveAggregate_140 hl (by decide) rfl (fun ls hl => ?_)
                    refine lv_lload hx hb d_M_giveAggregate_142 (lv_at hl 6 rfl) ?_
                    refine lv_lload hx hb d_M_giveAggregate_144 (lv_at hl 9 rfl) ?_
                    refine lv_ladd hx hb d_M_giveAggregate_146 ?_
                    refine lv_lstore (lv' := [(8, .long (x8 + x15)), (12, .long t0), (0, .ref (a 0)), (2, .int x2), (3, .int x3), (4, .long x4), (6, .long x6), (10, .long x10), (14, .int x14), (15, .long x15)]) hx hb d_M_giveAggregate_147 hl (by decide) rfl (fun ls hl => ?_)
                    refine lv_lload hx hb d_M_giveAggregate_149 (lv_at hl 6 rfl) ?_
                    refine lv_lconst (v := (1 : Int64)) hx hb d_M_giveAggregate_151 (by decide) ?_
                    refine lv_ladd hx hb d_M_giveAggregate_152 ?_
                    refine lv_lstore (lv' := [(6, .long (x6 + (1 : Int64))), (8, .long (x8 + x15)), (12, .long t0), (0, .ref (a 0)), (2, .int x2), (3, .int x3), (4, .long x4), (10, .long x10), (14, .int x14), (15, .long x15)]) hx hb d_M_giveAggregate_153 hl (by decide) rfl (fun ls hl => ?_)
                    refine lv_iinc (v := (x14 + 1)) (lv' := [(14, .int (x14 + 1)), (6, .long (x6 + (1 : Int64))), (8, .long (x8 + x15)), (12, .long t0), (0, .ref (a 0)), (2, .int x2), (3, .int x3), (4, .long x4), (10, .long x10), (15, .long x15)]) hx hb d_M_giveAggregate_155 hl (k := 8) rfl rfl (by decide) rfl (fun ls hl => ?_)
                    refine lv_goto (tgt := 34) hx hb d_M_giveAggregate_158 (by decide) ?_
                    exact ih34 σ x2 x3 x4 (x6 + (1 : Int64)) (x8 + x15) x10 t0 (x14 + 1) H locs ls hP hD hS (lv_sub hl [4, 5, 6, 7, 1, 2, 8, 3, 0] rfl) h
                  have L133 : ∀ (σ : St) (x2 : Int32) (x3 : Int32) (x4 : Int64) (x6 : Int64) (x8 : Int64) (x10 : Int64) (x14 : Int32) (x15 : Int64) (H : Heap) (locs : List Loc) (ls : Array Slot), va_P D vCl (wM g ca a σ ++ tl) H → va_D A (wM g ca a σ ++ tl) → va_S A s.heap H locs → lv_has ls 17 [(0, .ref (a 0)), (2, .int x2), (3, .int x3), (4, .long x4), (6, .long x6), (8, .long x8), (10, .long x10), (14, .int x14), (15, .long x15)] → f_M_giveAggregate_133 N K34 σ x2 x3 x4 x6 x8 x10 x14 x15 = some ((), σ') → W p l e R s m args below meth c H locs 0 0 (MQ below (qb_QV D vCl (tyM ca) (wM g ca a σ' ++ tl) A) args s 0 0 A) (F0 m 133 ls []) := by
                    intro σ x2 x3 x4 x6 x8 x10 x14 x15 H locs ls hP hD hS hl h
                    unfold f_M_giveAggregate_133 at h
                    refine lv_lload hx hb d_M_giveAggregate_133 (lv_at hl 8 rfl) ?_
                    refine lv_goto (tgt := 140) hx hb d_M_giveAggregate_135 (by decide) ?_
                    exact L140 σ x2 x3 x4 x6 x8 x10 x14 x15 x15 H locs ls hP hD hS (lv_sub hl [0, 1, 2, 3, 4, 5, 6, 7, 8] rfl) h
                  refine lv_if_eq (tgt := 133) hx hb d_M_giveAggregate_122 (by decide) (fun hc => ?_) (fun hc => ?_)
                  · replace h := it_t h hc
                    exact L133 σ x2 x3 x4 x6 x8 t0 x14 x15 H locs ls hP hD hS (lv_sub hl [1, 2, 3, 4, 5, 6, 0, 8, 9] rfl) h
                  · replace h := it_f h hc
                    refine lv_lload hx hb d_M_giveAggregate_125 (lv_at hl 9 rfl) ?_
                    refine lv_lload hx hb d_M_giveAggregate_127 (lv_at hl 7 rfl) ?_
                    refine W.lcmp hx hb d_M_giveAggregate_129 ?_
                    refine lv_if_le (tgt := 138) hx hb d_M_giveAggregate_130 (by decide) (fun hc => ?_) (fun hc => ?_)
                    · replace h := it_t h hc
                      refine lv_lload hx hb d_M_giveAggregate_138 (lv_at hl 7 rfl) ?_
                      exact L140 σ x2 x3 x4 x6 x8 t0 x14 x15 x12 H locs ls hP hD hS (lv_sub hl [1, 2, 3, 4, 5, 6, 0, 8, 9] rfl) h
                    · replace h := it_f h hc
                      exact L133 σ x2 x3 x4 x6 x8 t0 x14 x15 H locs ls hP hD hS (lv_sub hl [1, 2, 3, 4, 5, 6, 0, 8, 9] rfl) h
                have L109 : ∀ (σ : St) (x2 : Int32) (x3 : Int32) (x4 : Int64) (x6 : Int64) (x8 : Int64) (x12 : Int64) (x14 : Int32) (x15 : Int64) (H : Heap) (locs : List Loc) (ls : Array Slot), va_P D vCl (wM g ca a σ ++ tl) H → va_D A (wM g ca a σ ++ tl) → va_S A s.heap H locs → lv_has ls 17 [(0, .ref (a 0)), (2, .int x2), (3, .int x3), (4, .long x4), (6, .long x6), (8, .long x8), (12, .long x12), (14, .int x14), (15, .long x15)] → f_M_giveAggregate_109 N K34 σ x2 x3 x4 x6 x8 x12 x14 x15 = some ((), σ') → W p l e R s m args below meth c H locs 0 0 (MQ below (qb_QV D vCl (tyM ca) (wM g ca a σ' ++ tl) A) args s 0 0 A) (F0 m 109 ls []) := by
                  intro σ x2 x3 x4 x6 x8 x12 x14 x15 H locs ls hP hD hS hl h
                  unfold f_M_giveAggregate_109 at h
                  refine lv_lload hx hb d_M_giveAggregate_109 (lv_at hl 8 rfl) ?_
                  refine lv_goto (tgt := 116) hx hb d_M_giveAggregate_111 (by decide) ?_
                  exact L116 σ x2 x3 x4 x6 x8 x12 x14 x15 x15 H locs ls hP hD hS (lv_sub hl [0, 1, 2, 3, 4, 5, 6, 7, 8] rfl) h
                refine lv_if_eq (tgt := 109) hx hb d_M_giveAggregate_98 (by decide) (fun hc => ?_) (fun hc => ?_)
                · replace h := it_t h hc
                  exact L109 s8 x2 x3 (x4 + (1 : Int64)) x6 x8 x12 x14 (gb s8 3 ((((8 : Int32) * x14) + x2)).toNatClampNeg) H locs ls hP hD hS (lv_sub hl [2, 3, 4, 1, 5, 6, 8, 9, 0] rfl) h
                · replace h := it_f h hc
                  refine lv_lload hx hb d_M_giveAggregate_101 (lv_at hl 0 rfl) ?_
                  refine lv_lload hx hb d_M_giveAggregate_103 (lv_at hl 7 rfl) ?_
                  refine W.lcmp hx hb d_M_giveAggregate_105 ?_
                  refine lv_if_ge (tgt := 114) hx hb d_M_giveAggregate_106 (by decide) (fun hc => ?_) (fun hc => ?_)
                  · replace h := it_t h hc
                    refine lv_lload hx hb d_M_giveAggregate_114 (lv_at hl 7 rfl) ?_
                    exact L116 s8 x2 x3 (x4 + (1 : Int64)) x6 x8 x12 x14 (gb s8 3 ((((8 : Int32) * x14) + x2)).toNatClampNeg) x10 H locs ls hP hD hS (lv_sub hl [2, 3, 4, 1, 5, 6, 8, 9, 0] rfl) h
                  · replace h := it_f h hc
                    exact L109 s8 x2 x3 (x4 + (1 : Int64)) x6 x8 x12 x14 (gb s8 3 ((((8 : Int32) * x14) + x2)).toNatClampNeg) H locs ls hP hD hS (lv_sub hl [2, 3, 4, 1, 5, 6, 8, 9, 0] rfl) h
          · replace h := it_f h hc
            refine lv_goto (tgt := 155) hx hb d_M_giveAggregate_57 (by decide) ?_
            refine lv_iinc (v := (x14 + 1)) (lv' := [(14, .int (x14 + 1)), (0, .ref (a 0)), (2, .int x2), (3, .int x3), (4, .long x4), (6, .long x6), (8, .long x8), (10, .long x10), (12, .long x12)]) hx hb d_M_giveAggregate_155 hl (k := 8) rfl rfl (by decide) rfl (fun ls hl => ?_)
            refine lv_goto (tgt := 34) hx hb d_M_giveAggregate_158 (by decide) ?_
            exact ih34 σ x2 x3 x4 x6 x8 x10 x12 (x14 + 1) H locs ls hP hD hS (lv_sub hl [1, 2, 3, 4, 5, 6, 7, 8, 0] rfl) h
  refine lv_istore (lv' := [(14, .int (0 : Int32)), (12, .long (0 : Int64)), (10, .long (0 : Int64)), (8, .long (0 : Int64)), (6, .long (0 : Int64)), (4, .long (0 : Int64)), (3, .int ((ga s2 3 (x1).toNatClampNeg) - (30 : Int32))), (2, .int r1), (0, .ref (a 0)), (1, .int x1)]) hx hb d_M_giveAggregate_32 hl (by decide) rfl (fun ls hl => ?_)
  exact L34 N s2 r1 ((ga s2 3 (x1).toNatClampNeg) - (30 : Int32)) (0 : Int64) (0 : Int64) (0 : Int64) (0 : Int64) (0 : Int64) (0 : Int32) H locs ls hP hD hS (lv_sub hl [8, 7, 6, 5, 4, 3, 2, 1, 0] rfl) h
set_option maxRecDepth 100000 in
set_option maxHeartbeats 4000000 in
theorem c_M_giveColumn (l : Launch) (D : va_G) (ca : Nat → ClassId) (g : Bool) (a : Nat → Nat) (tl : va_W) (N : Nat) (σ σ' : St) (x1 : Int32) (h : f_M_giveColumn N σ x1 = some ((), σ')) : CtV l y_M_giveColumn ws_M_giveColumn rm_M_giveColumn 0 0 D vCl (tyM ca) nwM [.ref (a 0), .int x1] (wM g ca a σ ++ tl) (wM g ca a σ' ++ tl) := by
  refine en_V (ws' := BIG) (by decide +kernel) rfl (Nat.le_of_ble_eq_true rfl) ?_
  intro p e s m below meth c A ls R args H locs hR hx hb hr hlk hml hown hB hK hN hP hD hA hS hl
  have hl : lv_has ls 5 [(0, .ref (a 0)), (1, .int x1)] := hl
  unfold f_M_giveColumn at h
  refine lv_aload_n hx hb d_M_giveColumn_0 rfl (lv_at hl 0 rfl) ?_
  refine Mg_0_38 hx hb hB hown (hB _ m_899) hK hP d_M_giveColumn_1 ?_
  refine lv_aload_n hx hb d_M_giveColumn_4 rfl (lv_at hl 0 rfl) ?_
  refine Mg_0_7 hx hb hB hown (hB _ m_868) hK hP d_M_giveColumn_5 ?_
  refine lv_iload_n hx hb d_M_giveColumn_8 rfl (lv_at hl 1 rfl) ?_
  obtain ⟨hi, h⟩ := ckb_some h
  refine Ma_6 hx hb hK hP hi d_M_giveColumn_9 ?_
  obtain ⟨hi, h⟩ := ckb_some h
  refine Ma_23 hx hb hK hP hi d_M_giveColumn_10 ?_
  refine lv_istore_n (lv' := [(2, .int (ga σ 19 ((ga σ 4 (x1).toNatClampNeg)).toNatClampNeg)), (0, .ref (a 0)), (1, .int x1)]) hx hb d_M_giveColumn_11 rfl hl (by decide) rfl (fun ls hl => ?_)
  refine lv_bipush (v := (32 : Int32)) hx hb d_M_giveColumn_12 (by decide) ?_
  refine lv_aload_n hx hb d_M_giveColumn_14 rfl (lv_at hl 1 rfl) ?_
  refine Mg_0_17 hx hb hB hown (hB _ m_878) hK hP d_M_giveColumn_15 ?_
  refine lv_aload_n hx hb d_M_giveColumn_18 rfl (lv_at hl 1 rfl) ?_
  refine Mg_0_7 hx hb hB hown (hB _ m_868) hK hP d_M_giveColumn_19 ?_
  refine lv_iload_n hx hb d_M_giveColumn_22 rfl (lv_at hl 2 rfl) ?_
  obtain ⟨hi, h⟩ := ckb_some h
  refine Ma_6 hx hb hK hP hi d_M_giveColumn_23 ?_
  obtain ⟨hi, h⟩ := ckb_some h
  refine Ma_14 hx hb hK hP hi d_M_giveColumn_24 ?_
  refine lv_imul hx hb d_M_giveColumn_25 ?_
  refine lv_iconst (v := (4 : Int32)) hx hb d_M_giveColumn_26 (by decide) ?_
  refine lv_iload_n hx hb d_M_giveColumn_27 rfl (lv_at hl 0 rfl) ?_
  refine lv_imul hx hb d_M_giveColumn_28 ?_
  refine lv_iadd hx hb d_M_giveColumn_29 ?_
  refine lv_aload_n hx hb d_M_giveColumn_30 rfl (lv_at hl 1 rfl) ?_
  refine Mg_0_8 hx hb hB hown (hB _ m_869) hK hP d_M_giveColumn_31 ?_
  refine lv_iload_n hx hb d_M_giveColumn_34 rfl (lv_at hl 2 rfl) ?_
  obtain ⟨hi, h⟩ := ckb_some h
  refine Ma_7 hx hb hK hP hi d_M_giveColumn_35 ?_
  refine lv_iadd hx hb d_M_giveColumn_36 ?_
  refine lv_istore_n (lv' := [(3, .int ((((32 : Int32) * (ga σ 11 ((ga σ 4 (x1).toNatClampNeg)).toNatClampNeg)) + ((4 : Int32) * (ga σ 19 ((ga σ 4 (x1).toNatClampNeg)).toNatClampNeg))) + (ga σ 5 (x1).toNatClampNeg))), (2, .int (ga σ 19 ((ga σ 4 (x1).toNatClampNeg)).toNatClampNeg)), (0, .ref (a 0)), (1, .int x1)]) hx hb d_M_giveColumn_37 rfl hl (by decide) rfl (fun ls hl => ?_)
  refine lv_iload_n hx hb d_M_giveColumn_38 rfl (lv_at hl 1 rfl) ?_
  have L56 : ∀ (σ : St) (x3 : Int32) (t0 : Int32) (H : Heap) (locs : List Loc) (ls : Array Slot), va_P D vCl (wM g ca a σ ++ tl) H → va_D A (wM g ca a σ ++ tl) → va_S A s.heap H locs → lv_has ls 5 [(0, .ref (a 0)), (3, .int x3)] → f_M_giveColumn_56 N σ x3 t0 = some ((), σ') → W p l e R s m args below meth c H locs 0 0 (MQ below (qb_QV D vCl (tyM ca) (wM g ca a σ' ++ tl) A) args s 0 0 A) (F0 m 56 ls [.int t0]) := by
    intro σ x3 t0 H locs ls hP hD hS hl h
    unfold f_M_giveColumn_56 at h
    refine lv_istore (lv' := [(4, .int t0), (0, .ref (a 0)), (3, .int x3)]) hx hb d_M_giveColumn_56 hl (by decide) rfl (fun ls hl => ?_)
    refine lv_aload_n hx hb d_M_giveColumn_58 rfl (lv_at hl 1 rfl) ?_
    refine lv_iload hx hb d_M_giveColumn_59 (lv_at hl 0 rfl) ?_
    have L74 : ∀ (σ : St) (x4 : Int32) (t0 : Int64) (H : Heap) (locs : List Loc) (ls : Array Slot), va_P D vCl (wM g ca a σ ++ tl) H → va_D A (wM g ca a σ ++ tl) → va_S A s.heap H locs → lv_has ls 5 [(4, .int x4)] → f_M_giveColumn_74 N σ x4 t0 = some ((), σ') → W p l e R s m args below meth c H locs 0 0 (MQ below (qb_QV D vCl (tyM ca) (wM g ca a σ' ++ tl) A) args s 0 0 A) (F0 m 74 ls [.long t0, .ref (a 0)]) := by
      intro σ x4 t0 H locs ls hP hD hS hl h
      unfold f_M_giveColumn_74 at h
      refine lv_iload hx hb d_M_giveColumn_74 (lv_at hl 0 rfl) ?_
      obtain ⟨r1, s2, hr1, h⟩ := bd_some h
      cases r1
      refine go_VV (rest := []) ⟨hx, hb, hml, hown, hB⟩ nwM_ok (c_M_give l D ca g a tl N σ s2 t0 x4 hr1) (cwx_V hB m_1174 kw_M_give ⟨by rw [hR]; decide, by rw [hR]; decide⟩ rfl rfl) (va_recv hK hP (ci := 1) (q0 := 0) rfl rfl) hN hK hP hD hS hA rfl hl.1 rfl (Nat.le_of_ble_eq_true rfl) d_M_giveColumn_76 ⟨by rw [hR]; exact Nat.le_of_ble_eq_true rfl, by rw [hR]; exact Nat.le_of_ble_eq_true rfl⟩ (fun H locs hP hD hS => ?_)
      exact rf_V (w := (fun z => wM g ca a z ++ tl)) h hx hb hr hlk hK hP hD hS d_M_giveColumn_79
    refine lv_if_eq (tgt := 68) hx hb d_M_giveColumn_61 (by decide) (fun hc => ?_) (fun hc => ?_)
    · replace h := it_t h hc
      refine lv_aload_n hx hb d_M_giveColumn_68 rfl (lv_at hl 1 rfl) ?_
      refine Mg_0_3 hx hb hB hown (hB _ m_864) hK hP d_M_giveColumn_69 ?_
      refine lv_iload_n hx hb d_M_giveColumn_72 rfl (lv_at hl 2 rfl) ?_
      obtain ⟨hi, h⟩ := ckb_some h
      refine Ma_3 hx hb hK hP hi d_M_giveColumn_73 ?_
      exact L74 σ t0 (gb σ 0 (x3).toNatClampNeg) H locs ls hP hD hS (lv_sub hl [0] rfl) h
    · replace h := it_f h hc
      refine lv_lconst (v := (0 : Int64)) hx hb d_M_giveColumn_64 (by decide) ?_
      refine lv_goto (tgt := 74) hx hb d_M_giveColumn_65 (by decide) ?_
      exact L74 σ t0 (0 : Int64) H locs ls hP hD hS (lv_sub hl [0] rfl) h
  have L51 : ∀ (σ : St) (x3 : Int32) (H : Heap) (locs : List Loc) (ls : Array Slot), va_P D vCl (wM g ca a σ ++ tl) H → va_D A (wM g ca a σ ++ tl) → va_S A s.heap H locs → lv_has ls 5 [(0, .ref (a 0)), (3, .int x3)] → f_M_giveColumn_51 N σ x3 = some ((), σ') → W p l e R s m args below meth c H locs 0 0 (MQ below (qb_QV D vCl (tyM ca) (wM g ca a σ' ++ tl) A) args s 0 0 A) (F0 m 51 ls []) := by
    intro σ x3 H locs ls hP hD hS hl h
    unfold f_M_giveColumn_51 at h
    refine lv_iconst (v := (1 : Int32)) hx hb d_M_giveColumn_51 (by decide) ?_
    refine lv_goto (tgt := 56) hx hb d_M_giveColumn_52 (by decide) ?_
    exact L56 σ x3 (1 : Int32) H locs ls hP hD hS (lv_sub hl [0, 1] rfl) h
  refine lv_if_lt (tgt := 51) hx hb d_M_giveColumn_39 (by decide) (fun hc => ?_) (fun hc => ?_)
  · replace h := it_t h hc
    exact L51 σ ((((32 : Int32) * (ga σ 11 ((ga σ 4 (x1).toNatClampNeg)).toNatClampNeg)) + ((4 : Int32) * (ga σ 19 ((ga σ 4 (x1).toNatClampNeg)).toNatClampNeg))) + (ga σ 5 (x1).toNatClampNeg)) H locs ls hP hD hS (lv_sub hl [2, 0] rfl) h
  · replace h := it_f h hc
    refine lv_aload_n hx hb d_M_giveColumn_42 rfl (lv_at hl 2 rfl) ?_
    refine Mg_0_4 hx hb hB hown (hB _ m_865) hK hP d_M_giveColumn_43 ?_
    refine lv_iload_n hx hb d_M_giveColumn_46 rfl (lv_at hl 0 rfl) ?_
    obtain ⟨hi, h⟩ := ckb_some h
    refine Ma_4 hx hb hK hP hi d_M_giveColumn_47 ?_
    refine lv_if_eq (tgt := 55) hx hb d_M_giveColumn_48 (by decide) (fun hc => ?_) (fun hc => ?_)
    · replace h := it_t h hc
      refine lv_iconst (v := (0 : Int32)) hx hb d_M_giveColumn_55 (by decide) ?_
      exact L56 σ ((((32 : Int32) * (ga σ 11 ((ga σ 4 (x1).toNatClampNeg)).toNatClampNeg)) + ((4 : Int32) * (ga σ 19 ((ga σ 4 (x1).toNatClampNeg)).toNatClampNeg))) + (ga σ 5 (x1).toNatClampNeg)) (0 : Int32) H locs ls hP hD hS (lv_sub hl [2, 0] rfl) h
    · replace h := it_f h hc
      exact L51 σ ((((32 : Int32) * (ga σ 11 ((ga σ 4 (x1).toNatClampNeg)).toNatClampNeg)) + ((4 : Int32) * (ga σ 19 ((ga σ 4 (x1).toNatClampNeg)).toNatClampNeg))) + (ga σ 5 (x1).toNatClampNeg)) H locs ls hP hD hS (lv_sub hl [2, 0] rfl) h
set_option maxRecDepth 100000 in
set_option maxHeartbeats 4000000 in
theorem c_M_groupLike (l : Launch) (D : va_G) (ca : Nat → ClassId) (g : Bool) (a : Nat → Nat) (tl : va_W) (N : Nat) (σ σ' : St) (x1 : Int32) (r : Int32) (h : f_M_groupLike N σ x1 = some (r, σ')) : CtI l y_M_groupLike ws_M_groupLike rm_M_groupLike 0 0 D vCl (tyM ca) nwM [.ref (a 0), .int x1] (wM g ca a σ ++ tl) (wM g ca a σ' ++ tl) r := by
  refine en_I (ws' := BIG) (by decide +kernel) rfl (Nat.le_of_ble_eq_true rfl) ?_
  intro p e s m below meth c A ls R args H locs hR hx hb hr hlk hml hown hB hK hN hP hD hA hS hl
  have hl : lv_has ls 4 [(0, .ref (a 0)), (1, .int x1)] := hl
  unfold f_M_groupLike at h
  refine lv_iconst (v := (-1 : Int32)) hx hb d_M_groupLike_0 (by decide) ?_
  refine lv_istore_n (lv' := [(2, .int (-1 : Int32)), (0, .ref (a 0)), (1, .int x1)]) hx hb d_M_groupLike_1 rfl hl (by decide) rfl (fun ls hl => ?_)
  refine lv_aload_n hx hb d_M_groupLike_2 rfl (lv_at hl 1 rfl) ?_
  refine Mg_0_22 hx hb hB hown (hB _ m_883) hK hP d_M_groupLike_3 ?_
  refine lv_iconst (v := (1 : Int32)) hx hb d_M_groupLike_6 (by decide) ?_
  refine lv_isub hx hb d_M_groupLike_7 ?_
  have L9 : ∀ (n : Nat) (σ : St) (x1 : Int32) (x2 : Int32) (x3 : Int32) (H : Heap) (locs : List Loc) (ls : Array Slot), va_P D vCl (wM g ca a σ ++ tl) H → va_D A (wM g ca a σ ++ tl) → va_S A s.heap H locs → lv_has ls 4 [(0, .ref (a 0)), (1, .int x1), (2, .int x2), (3, .int x3)] → f_M_groupLike_9 N n σ x1 x2 x3 = some (r, σ') → W p l e R s m args below meth c H locs 0 0 (MQ below (qb_QI D vCl (tyM ca) (wM g ca a σ' ++ tl) A r) args s 0 0 A) (F0 m 9 ls []) := by
    intro n
    induction n with
    | zero => intro σ x1 x2 x3 H locs ls hP hD hS hl h; cases h
    | succ n ih9 =>
        intro σ x1 x2 x3 H locs ls hP hD hS hl h
        obtain ⟨K9, eK9⟩ : ∃ K, K = f_M_groupLike_9 N n := ⟨_, rfl⟩
        rw [← eK9] at ih9
        replace h : f_M_groupLike_9_b N K9 σ x1 x2 x3 = some (r, σ') := by rw [eK9]; exact h
        unfold f_M_groupLike_9_b at h
        refine lv_iload_n hx hb d_M_groupLike_9 rfl (lv_at hl 3 rfl) ?_
        refine lv_if_lt (tgt := 45) hx hb d_M_groupLike_10 (by decide) (fun hc => ?_) (fun hc => ?_)
        · replace h := it_t h hc
          refine lv_iload_n hx hb d_M_groupLike_45 rfl (lv_at hl 2 rfl) ?_
          exact rf_I (w := (fun z => wM g ca a z ++ tl)) h hx hb hr hlk hK hP hD hS d_M_groupLike_46
        · replace h := it_f h hc
          refine lv_aload_n hx hb d_M_groupLike_13 rfl (lv_at hl 0 rfl) ?_
          refine Mg_0_13 hx hb hB hown (hB _ m_874) hK hP d_M_groupLike_14 ?_
          refine lv_aload_n hx hb d_M_groupLike_17 rfl (lv_at hl 0 rfl) ?_
          refine Mg_0_23 hx hb hB hown (hB _ m_884) hK hP d_M_groupLike_18 ?_
          refine lv_iload_n hx hb d_M_groupLike_21 rfl (lv_at hl 3 rfl) ?_
          obtain ⟨hi, h⟩ := ckb_some h
          refine Ma_17 hx hb hK hP hi d_M_groupLike_22 ?_
          obtain ⟨hi, h⟩ := ckb_some h
          refine Ma_12 hx hb hK hP hi d_M_groupLike_23 ?_
          refine lv_aload_n hx hb d_M_groupLike_24 rfl (lv_at hl 0 rfl) ?_
          refine Mg_0_13 hx hb hB hown (hB _ m_874) hK hP d_M_groupLike_25 ?_
          refine lv_iload_n hx hb d_M_groupLike_28 rfl (lv_at hl 1 rfl) ?_
          obtain ⟨hi, h⟩ := ckb_some h
          refine Ma_12 hx hb hK hP hi d_M_groupLike_29 ?_
          refine lv_icmp_ne (tgt := 37) hx hb d_M_groupLike_30 (by decide) (fun hc => ?_) (fun hc => ?_)
          · replace h := it_f h hc
            refine lv_iload_n hx hb d_M_groupLike_37 rfl (lv_at hl 2 rfl) ?_
            refine lv_istore_n (lv' := [(2, .int x2), (0, .ref (a 0)), (1, .int x1), (3, .int x3)]) hx hb d_M_groupLike_38 rfl hl (by decide) rfl (fun ls hl => ?_)
            refine lv_iinc (v := (x3 + Int32.ofInt (-1))) (lv' := [(3, .int (x3 + Int32.ofInt (-1))), (2, .int x2), (0, .ref (a 0)), (1, .int x1)]) hx hb d_M_groupLike_39 hl (k := 3) rfl rfl (by decide) rfl (fun ls hl => ?_)
            refine lv_goto (tgt := 9) hx hb d_M_groupLike_42 (by decide) ?_
            exact ih9 σ x1 x2 (x3 + Int32.ofInt (-1)) H locs ls hP hD hS (lv_sub hl [2, 3, 1, 0] rfl) h
          · replace h := it_t h hc
            refine lv_iload_n hx hb d_M_groupLike_33 rfl (lv_at hl 3 rfl) ?_
            refine lv_goto (tgt := 38) hx hb d_M_groupLike_34 (by decide) ?_
            refine lv_istore_n (lv' := [(2, .int x3), (0, .ref (a 0)), (1, .int x1), (3, .int x3)]) hx hb d_M_groupLike_38 rfl hl (by decide) rfl (fun ls hl => ?_)
            refine lv_iinc (v := (x3 + Int32.ofInt (-1))) (lv' := [(3, .int (x3 + Int32.ofInt (-1))), (2, .int x3), (0, .ref (a 0)), (1, .int x1)]) hx hb d_M_groupLike_39 hl (k := 3) rfl rfl (by decide) rfl (fun ls hl => ?_)
            refine lv_goto (tgt := 9) hx hb d_M_groupLike_42 (by decide) ?_
            exact ih9 σ x1 x3 (x3 + Int32.ofInt (-1)) H locs ls hP hD hS (lv_sub hl [2, 3, 1, 0] rfl) h
  refine lv_istore_n (lv' := [(3, .int ((gi σ 6) - (1 : Int32))), (2, .int (-1 : Int32)), (0, .ref (a 0)), (1, .int x1)]) hx hb d_M_groupLike_8 rfl hl (by decide) rfl (fun ls hl => ?_)
  exact L9 N σ x1 (-1 : Int32) ((gi σ 6) - (1 : Int32)) H locs ls hP hD hS (lv_sub hl [2, 3, 1, 0] rfl) h
set_option maxRecDepth 100000 in
set_option maxHeartbeats 4000000 in
theorem c_M_lookOnce (l : Launch) (D : va_G) (ca : Nat → ClassId) (g : Bool) (a : Nat → Nat) (tl : va_W) (N : Nat) (σ σ' : St) (h : f_M_lookOnce N σ = some ((), σ')) : CtV l y_M_lookOnce ws_M_lookOnce rm_M_lookOnce 0 0 D vCl (tyM ca) nwM [.ref (a 0)] (wM g ca a σ ++ tl) (wM g ca a σ' ++ tl) := by
  refine en_V (ws' := BIG) (by decide +kernel) rfl (Nat.le_of_ble_eq_true rfl) ?_
  intro p e s m below meth c A ls R args H locs hR hx hb hr hlk hml hown hB hK hN hP hD hA hS hl
  have hl : lv_has ls 7 [(0, .ref (a 0))] := hl
  unfold f_M_lookOnce at h
  refine lv_aload_n hx hb d_M_lookOnce_0 rfl (lv_at hl 0 rfl) ?_
  refine Mg_0_49 hx hb hB hown (hB _ m_910) hK hP d_M_lookOnce_1 ?_
  refine lv_iconst (v := (1 : Int32)) hx hb d_M_lookOnce_4 (by decide) ?_
  refine lv_isub hx hb d_M_lookOnce_5 ?_
  refine lv_istore_n (lv' := [(1, .int ((gi σ 19) - (1 : Int32))), (0, .ref (a 0))]) hx hb d_M_lookOnce_6 rfl hl (by decide) rfl (fun ls hl => ?_)
  refine lv_aload_n hx hb d_M_lookOnce_7 rfl (lv_at hl 1 rfl) ?_
  refine Mg_0_50 hx hb hB hown (hB _ m_911) hK hP d_M_lookOnce_8 ?_
  refine lv_iload_n hx hb d_M_lookOnce_11 rfl (lv_at hl 0 rfl) ?_
  obtain ⟨hi, h⟩ := ckb_some h
  refine Ma_31 hx hb hK hP hi d_M_lookOnce_12 ?_
  refine lv_istore_n (lv' := [(2, .int (ga σ 24 (((gi σ 19) - (1 : Int32))).toNatClampNeg)), (1, .int ((gi σ 19) - (1 : Int32))), (0, .ref (a 0))]) hx hb d_M_lookOnce_13 rfl hl (by decide) rfl (fun ls hl => ?_)
  refine lv_aload_n hx hb d_M_lookOnce_14 rfl (lv_at hl 2 rfl) ?_
  refine Mg_0_6 hx hb hB hown (hB _ m_867) hK hP d_M_lookOnce_15 ?_
  refine lv_iload_n hx hb d_M_lookOnce_18 rfl (lv_at hl 0 rfl) ?_
  obtain ⟨hi, h⟩ := ckb_some h
  refine Ma_5 hx hb hK hP hi d_M_lookOnce_19 ?_
  refine lv_istore_n (lv' := [(3, .int (ga σ 3 ((ga σ 24 (((gi σ 19) - (1 : Int32))).toNatClampNeg)).toNatClampNeg)), (2, .int (ga σ 24 (((gi σ 19) - (1 : Int32))).toNatClampNeg)), (1, .int ((gi σ 19) - (1 : Int32))), (0, .ref (a 0))]) hx hb d_M_lookOnce_20 rfl hl (by decide) rfl (fun ls hl => ?_)
  refine lv_aload_n hx hb d_M_lookOnce_21 rfl (lv_at hl 3 rfl) ?_
  refine Mg_0_48 hx hb hB hown (hB _ m_909) hK hP d_M_lookOnce_22 ?_
  have L37 : ∀ (σ : St) (x1 : Int32) (x2 : Int32) (x3 : Int32) (t0 : Int32) (H : Heap) (locs : List Loc) (ls : Array Slot), va_P D vCl (wM g ca a σ ++ tl) H → va_D A (wM g ca a σ ++ tl) → va_S A s.heap H locs → lv_has ls 7 [(0, .ref (a 0)), (1, .int x1), (2, .int x2), (3, .int x3)] → f_M_lookOnce_37 N σ x1 x2 x3 t0 = some ((), σ') → W p l e R s m args below meth c H locs 0 0 (MQ below (qb_QV D vCl (tyM ca) (wM g ca a σ' ++ tl) A) args s 0 0 A) (F0 m 37 ls [.int t0]) := by
    intro σ x1 x2 x3 t0 H locs ls hP hD hS hl h
    unfold f_M_lookOnce_37 at h
    refine lv_istore (lv' := [(4, .int t0), (0, .ref (a 0)), (1, .int x1), (2, .int x2), (3, .int x3)]) hx hb d_M_lookOnce_37 hl (by decide) rfl (fun ls hl => ?_)
    refine lv_iload hx hb d_M_lookOnce_39 (lv_at hl 0 rfl) ?_
    refine lv_if_lt (tgt := 89) hx hb d_M_lookOnce_41 (by decide) (fun hc => ?_) (fun hc => ?_)
    · replace h := it_t h hc
      refine lv_iload_n hx hb d_M_lookOnce_89 rfl (lv_at hl 4 rfl) ?_
      refine lv_bipush (v := (20 : Int32)) hx hb d_M_lookOnce_90 (by decide) ?_
      refine lv_icmp_ne (tgt := 137) hx hb d_M_lookOnce_92 (by decide) (fun hc => ?_) (fun hc => ?_)
      · replace h := it_f h hc
        refine lv_iload_n hx hb d_M_lookOnce_137 rfl (lv_at hl 4 rfl) ?_
        refine lv_bipush (v := (21 : Int32)) hx hb d_M_lookOnce_138 (by decide) ?_
        refine lv_icmp_ne (tgt := 161) hx hb d_M_lookOnce_140 (by decide) (fun hc => ?_) (fun hc => ?_)
        · replace h := it_f h hc
          refine lv_iload_n hx hb d_M_lookOnce_161 rfl (lv_at hl 4 rfl) ?_
          refine lv_bipush (v := (30 : Int32)) hx hb d_M_lookOnce_162 (by decide) ?_
          refine lv_icmp_lt (tgt := 185) hx hb d_M_lookOnce_164 (by decide) (fun hc => ?_) (fun hc => ?_)
          · replace h := it_t h hc
            refine lv_aload_n hx hb d_M_lookOnce_185 rfl (lv_at hl 1 rfl) ?_
            refine Mg_0_51 hx hb hB hown (hB _ m_912) hK hP d_M_lookOnce_186 ?_
            refine lv_iload_n hx hb d_M_lookOnce_189 rfl (lv_at hl 2 rfl) ?_
            obtain ⟨hi, h⟩ := ckb_some h
            refine Ma_32 hx hb hK hP hi d_M_lookOnce_190 ?_
            refine lv_if_ne (tgt := 214) hx hb d_M_lookOnce_191 (by decide) (fun hc => ?_) (fun hc => ?_)
            · replace h := it_f h hc
              refine lv_iload_n hx hb d_M_lookOnce_214 rfl (lv_at hl 4 rfl) ?_
              refine lv_bipush (v := (11 : Int32)) hx hb d_M_lookOnce_215 (by decide) ?_
              refine lv_icmp_ne (tgt := 276) hx hb d_M_lookOnce_217 (by decide) (fun hc => ?_) (fun hc => ?_)
              · replace h := it_f h hc
                refine lv_iload_n hx hb d_M_lookOnce_276 rfl (lv_at hl 4 rfl) ?_
                refine lv_bipush (v := (12 : Int32)) hx hb d_M_lookOnce_277 (by decide) ?_
                refine lv_icmp_ne (tgt := 332) hx hb d_M_lookOnce_279 (by decide) (fun hc => ?_) (fun hc => ?_)
                · replace h := it_f h hc
                  refine lv_aload_n hx hb d_M_lookOnce_332 rfl (lv_at hl 1 rfl) ?_
                  refine Mg_0_51 hx hb hB hown (hB _ m_912) hK hP d_M_lookOnce_333 ?_
                  refine lv_iload_n hx hb d_M_lookOnce_336 rfl (lv_at hl 2 rfl) ?_
                  obtain ⟨hi, h⟩ := ckb_some h
                  refine Ma_32 hx hb hK hP hi d_M_lookOnce_337 ?_
                  refine lv_iconst (v := (1 : Int32)) hx hb d_M_lookOnce_338 (by decide) ?_
                  have L399 : ∀ (σ : St) (x1 : Int32) (x2 : Int32) (x3 : Int32) (H : Heap) (locs : List Loc) (ls : Array Slot), va_P D vCl (wM g ca a σ ++ tl) H → va_D A (wM g ca a σ ++ tl) → va_S A s.heap H locs → lv_has ls 7 [(0, .ref (a 0)), (1, .int x1), (2, .int x2), (3, .int x3)] → f_M_lookOnce_399 N σ x1 x2 x3 = some ((), σ') → W p l e R s m args below meth c H locs 0 0 (MQ below (qb_QV D vCl (tyM ca) (wM g ca a σ' ++ tl) A) args s 0 0 A) (F0 m 399 ls []) := by
                    intro σ x1 x2 x3 H locs ls hP hD hS hl h
                    unfold f_M_lookOnce_399 at h
                    refine lv_aload_n hx hb d_M_lookOnce_399 rfl (lv_at hl 0 rfl) ?_
                    refine Mg_0_51 hx hb hB hown (hB _ m_912) hK hP d_M_lookOnce_400 ?_
                    refine lv_iload_n hx hb d_M_lookOnce_403 rfl (lv_at hl 1 rfl) ?_
                    obtain ⟨hi, h⟩ := ckb_some h
                    refine Ma_32 hx hb hK hP hi d_M_lookOnce_404 ?_
                    refine lv_iconst (v := (1 : Int32)) hx hb d_M_lookOnce_405 (by decide) ?_
                    refine lv_icmp_ne (tgt := 429) hx hb d_M_lookOnce_406 (by decide) (fun hc => ?_) (fun hc => ?_)
                    · replace h := it_f h hc
                      refine lv_aload_n hx hb d_M_lookOnce_429 rfl (lv_at hl 0 rfl) ?_
                      refine lv_iload_n hx hb d_M_lookOnce_430 rfl (lv_at hl 3 rfl) ?_
                      obtain ⟨r1, s2, hr1, h⟩ := bd_some h
                      cases r1
                      refine go_VV (rest := []) ⟨hx, hb, hml, hown, hB⟩ nwM_ok (c_M_combine l D ca g a tl N σ s2 x3 hr1) (cwx_V hB m_1197 kw_M_combine ⟨by rw [hR]; decide, by rw [hR]; decide⟩ rfl rfl) (va_recv hK hP (ci := 1) (q0 := 0) rfl rfl) hN hK hP hD hS hA rfl hl.1 rfl (Nat.le_of_ble_eq_true rfl) d_M_lookOnce_431 ⟨by rw [hR]; exact Nat.le_of_ble_eq_true rfl, by rw [hR]; exact Nat.le_of_ble_eq_true rfl⟩ (fun H locs hP hD hS => ?_)
                      refine lv_aload_n hx hb d_M_lookOnce_434 rfl (lv_at hl 0 rfl) ?_
                      refine lv_dup hx hb d_M_lookOnce_435 rfl ?_
                      refine Mg_0_49 hx hb hB hown (hB _ m_910) hK hP d_M_lookOnce_436 ?_
                      refine lv_iconst (v := (1 : Int32)) hx hb d_M_lookOnce_439 (by decide) ?_
                      refine lv_isub hx hb d_M_lookOnce_440 ?_
                      obtain ⟨s3, es3, h⟩ := nm_some h
                      refine Mp_0_49 es3 hx hb hB hown (hB _ m_910) hK hP hD hS d_M_lookOnce_441 (fun H locs hP hD hS => ?_)
                      exact rf_V (w := (fun z => wM g ca a z ++ tl)) h hx hb hr hlk hK hP hD hS d_M_lookOnce_444
                    · replace h := it_t h hc
                      refine lv_aload_n hx hb d_M_lookOnce_409 rfl (lv_at hl 0 rfl) ?_
                      refine Mg_0_51 hx hb hB hown (hB _ m_912) hK hP d_M_lookOnce_410 ?_
                      refine lv_iload_n hx hb d_M_lookOnce_413 rfl (lv_at hl 1 rfl) ?_
                      refine lv_iconst (v := (2 : Int32)) hx hb d_M_lookOnce_414 (by decide) ?_
                      obtain ⟨hi, h⟩ := ckb_some h
                      obtain ⟨s4, es4, h⟩ := nm_some h
                      refine Ms_32 es4 hx hb hK hP hD hS hi d_M_lookOnce_415 (fun H locs hP hD hS => ?_)
                      refine lv_aload_n hx hb d_M_lookOnce_416 rfl (lv_at hl 0 rfl) ?_
                      refine lv_aload_n hx hb d_M_lookOnce_417 rfl (lv_at hl 0 rfl) ?_
                      refine Mg_0_8 hx hb hB hown (hB _ m_869) hK hP d_M_lookOnce_418 ?_
                      refine lv_iload_n hx hb d_M_lookOnce_421 rfl (lv_at hl 2 rfl) ?_
                      obtain ⟨hi, h⟩ := ckb_some h
                      refine Ma_7 hx hb hK hP hi d_M_lookOnce_422 ?_
                      obtain ⟨r5, s6, hr5, h⟩ := bd_some h
                      cases r5
                      refine go_VV (rest := []) ⟨hx, hb, hml, hown, hB⟩ nwM_ok (c_M_push l D ca g a tl N s4 s6 (ga s4 5 (x2).toNatClampNeg) hr5) (cwx_V hB m_1126 kw_M_push ⟨by rw [hR]; decide, by rw [hR]; decide⟩ rfl rfl) (va_recv hK hP (ci := 1) (q0 := 0) rfl rfl) hN hK hP hD hS hA rfl hl.1 rfl (Nat.le_of_ble_eq_true rfl) d_M_lookOnce_423 ⟨by rw [hR]; exact Nat.le_of_ble_eq_true rfl, by rw [hR]; exact Nat.le_of_ble_eq_true rfl⟩ (fun H locs hP hD hS => ?_)
                      refine lv_goto (tgt := 444) hx hb d_M_lookOnce_426 (by decide) ?_
                      exact rf_V (w := (fun z => wM g ca a z ++ tl)) h hx hb hr hlk hK hP hD hS d_M_lookOnce_444
                  refine lv_icmp_ne (tgt := 399) hx hb d_M_lookOnce_339 (by decide) (fun hc => ?_) (fun hc => ?_)
                  · replace h := it_f h hc
                    exact L399 σ x1 x2 x3 H locs ls hP hD hS (lv_sub hl [1, 2, 3, 4] rfl) h
                  · replace h := it_t h hc
                    refine lv_iload_n hx hb d_M_lookOnce_342 rfl (lv_at hl 4 rfl) ?_
                    refine lv_bipush (v := (9 : Int32)) hx hb d_M_lookOnce_343 (by decide) ?_
                    have L386 : ∀ (σ : St) (H : Heap) (locs : List Loc) (ls : Array Slot), va_P D vCl (wM g ca a σ ++ tl) H → va_D A (wM g ca a σ ++ tl) → va_S A s.heap H locs → lv_has ls 7 [(0, .ref (a 0))] → f_M_lookOnce_386 N σ = some ((), σ') → W p l e R s m args below meth c H locs 0 0 (MQ below (qb_QV D vCl (tyM ca) (wM g ca a σ' ++ tl) A) args s 0 0 A) (F0 m 386 ls []) := by
                      intro σ H locs ls hP hD hS hl h
                      unfold f_M_lookOnce_386 at h
                      refine lv_aload_n hx hb d_M_lookOnce_386 rfl (lv_at hl 0 rfl) ?_
                      refine lv_dup hx hb d_M_lookOnce_387 rfl ?_
                      refine Mg_0_49 hx hb hB hown (hB _ m_910) hK hP d_M_lookOnce_388 ?_
                      refine lv_iconst (v := (1 : Int32)) hx hb d_M_lookOnce_391 (by decide) ?_
                      refine lv_isub hx hb d_M_lookOnce_392 ?_
                      obtain ⟨s7, es7, h⟩ := nm_some h
                      refine Mp_0_49 es7 hx hb hB hown (hB _ m_910) hK hP hD hS d_M_lookOnce_393 (fun H locs hP hD hS => ?_)
                      refine lv_goto (tgt := 444) hx hb d_M_lookOnce_396 (by decide) ?_
                      exact rf_V (w := (fun z => wM g ca a z ++ tl)) h hx hb hr hlk hK hP hD hS d_M_lookOnce_444
                    have L364 : ∀ (σ : St) (x1 : Int32) (x2 : Int32) (x3 : Int32) (H : Heap) (locs : List Loc) (ls : Array Slot), va_P D vCl (wM g ca a σ ++ tl) H → va_D A (wM g ca a σ ++ tl) → va_S A s.heap H locs → lv_has ls 7 [(0, .ref (a 0)), (1, .int x1), (2, .int x2), (3, .int x3)] → f_M_lookOnce_364 N σ x1 x2 x3 = some ((), σ') → W p l e R s m args below meth c H locs 0 0 (MQ below (qb_QV D vCl (tyM ca) (wM g ca a σ' ++ tl) A) args s 0 0 A) (F0 m 364 ls []) := by
                      intro σ x1 x2 x3 H locs ls hP hD hS hl h
                      unfold f_M_lookOnce_364 at h
                      refine lv_iload_n hx hb d_M_lookOnce_364 rfl (lv_at hl 3 rfl) ?_
                      refine lv_bipush (v := (10 : Int32)) hx hb d_M_lookOnce_365 (by decide) ?_
                      refine lv_icmp_ne (tgt := 399) hx hb d_M_lookOnce_367 (by decide) (fun hc => ?_) (fun hc => ?_)
                      · replace h := it_f h hc
                        exact L399 σ x1 x2 x3 H locs ls hP hD hS (lv_sub hl [0, 1, 2, 3] rfl) h
                      · replace h := it_t h hc
                        refine lv_aload_n hx hb d_M_lookOnce_370 rfl (lv_at hl 0 rfl) ?_
                        refine Mg_0_53 hx hb hB hown (hB _ m_914) hK hP d_M_lookOnce_371 ?_
                        refine lv_aload_n hx hb d_M_lookOnce_374 rfl (lv_at hl 0 rfl) ?_
                        refine Mg_0_52 hx hb hB hown (hB _ m_913) hK hP d_M_lookOnce_375 ?_
                        refine lv_iconst (v := (1 : Int32)) hx hb d_M_lookOnce_378 (by decide) ?_
                        refine lv_isub hx hb d_M_lookOnce_379 ?_
                        obtain ⟨hi, h⟩ := ckb_some h
                        refine Ma_33 hx hb hK hP hi d_M_lookOnce_380 ?_
                        refine lv_lconst (v := (1 : Int64)) hx hb d_M_lookOnce_381 (by decide) ?_
                        refine W.lcmp hx hb d_M_lookOnce_382 ?_
                        refine lv_if_ne (tgt := 399) hx hb d_M_lookOnce_383 (by decide) (fun hc => ?_) (fun hc => ?_)
                        · replace h := it_f h hc
                          exact L399 σ x1 x2 x3 H locs ls hP hD hS (lv_sub hl [0, 1, 2, 3] rfl) h
                        · replace h := it_t h hc
                          exact L386 σ H locs ls hP hD hS (lv_sub hl [0] rfl) h
                    refine lv_icmp_ne (tgt := 364) hx hb d_M_lookOnce_345 (by decide) (fun hc => ?_) (fun hc => ?_)
                    · replace h := it_f h hc
                      exact L364 σ x1 x2 x3 H locs ls hP hD hS (lv_sub hl [1, 2, 3, 4] rfl) h
                    · replace h := it_t h hc
                      refine lv_aload_n hx hb d_M_lookOnce_348 rfl (lv_at hl 1 rfl) ?_
                      refine Mg_0_53 hx hb hB hown (hB _ m_914) hK hP d_M_lookOnce_349 ?_
                      refine lv_aload_n hx hb d_M_lookOnce_352 rfl (lv_at hl 1 rfl) ?_
                      refine Mg_0_52 hx hb hB hown (hB _ m_913) hK hP d_M_lookOnce_353 ?_
                      refine lv_iconst (v := (1 : Int32)) hx hb d_M_lookOnce_356 (by decide) ?_
                      refine lv_isub hx hb d_M_lookOnce_357 ?_
                      obtain ⟨hi, h⟩ := ckb_some h
                      refine Ma_33 hx hb hK hP hi d_M_lookOnce_358 ?_
                      refine lv_lconst (v := (0 : Int64)) hx hb d_M_lookOnce_359 (by decide) ?_
                      refine W.lcmp hx hb d_M_lookOnce_360 ?_
                      refine lv_if_eq (tgt := 386) hx hb d_M_lookOnce_361 (by decide) (fun hc => ?_) (fun hc => ?_)
                      · replace h := it_t h hc
                        exact L386 σ H locs ls hP hD hS (lv_sub hl [1] rfl) h
                      · replace h := it_f h hc
                        exact L364 σ x1 x2 x3 H locs ls hP hD hS (lv_sub hl [1, 2, 3, 4] rfl) h
                · replace h := it_t h hc
                  refine lv_aload_n hx hb d_M_lookOnce_282 rfl (lv_at hl 1 rfl) ?_
                  refine Mg_0_53 hx hb hB hown (hB _ m_914) hK hP d_M_lookOnce_283 ?_
                  refine lv_aload_n hx hb d_M_lookOnce_286 rfl (lv_at hl 1 rfl) ?_
                  refine Mg_0_52 hx hb hB hown (hB _ m_913) hK hP d_M_lookOnce_287 ?_
                  refine lv_iconst (v := (1 : Int32)) hx hb d_M_lookOnce_290 (by decide) ?_
                  refine lv_isub hx hb d_M_lookOnce_291 ?_
                  refine lv_aload_n hx hb d_M_lookOnce_292 rfl (lv_at hl 1 rfl) ?_
                  refine Mg_0_54 hx hb hB hown (hB _ m_915) hK hP d_M_lookOnce_293 ?_
                  refine lv_aload_n hx hb d_M_lookOnce_296 rfl (lv_at hl 1 rfl) ?_
                  refine Mg_0_52 hx hb hB hown (hB _ m_913) hK hP d_M_lookOnce_297 ?_
                  refine lv_iconst (v := (1 : Int32)) hx hb d_M_lookOnce_300 (by decide) ?_
                  refine lv_isub hx hb d_M_lookOnce_301 ?_
                  obtain ⟨hi, h⟩ := ckb_some h
                  refine Ma_34 hx hb hK hP hi d_M_lookOnce_302 ?_
                  obtain ⟨r8, s9, hr8, h⟩ := bd_some h
                  refine go_SL (rest := [.int ((gi σ 20) - (1 : Int32)), .ref (a 33)]) ⟨hx, hb, hml, hown, hB⟩ nwM_ok (c_M_truthOf l D ca g a tl N σ s9 (ga σ 26 (((gi σ 20) - (1 : Int32))).toNatClampNeg) r8 hr8) (cwx_S hB m_1194 kw_M_truthOf ⟨by rw [hR]; decide, by rw [hR]; decide⟩ rfl rfl) hN hK hP hD hS hA rfl hl.1 rfl (Nat.le_of_ble_eq_true rfl) d_M_lookOnce_303 ⟨by rw [hR]; exact Nat.le_of_ble_eq_true rfl, by rw [hR]; exact Nat.le_of_ble_eq_true rfl⟩ (fun H locs hP hD hS => ?_)
                  obtain ⟨hi, h⟩ := ckb_some h
                  obtain ⟨s10, es10, h⟩ := nm_some h
                  refine Ms_33 es10 hx hb hK hP hD hS hi d_M_lookOnce_306 (fun H locs hP hD hS => ?_)
                  refine lv_aload_n hx hb d_M_lookOnce_307 rfl (lv_at hl 1 rfl) ?_
                  refine Mg_0_54 hx hb hB hown (hB _ m_915) hK hP d_M_lookOnce_308 ?_
                  refine lv_aload_n hx hb d_M_lookOnce_311 rfl (lv_at hl 1 rfl) ?_
                  refine Mg_0_52 hx hb hB hown (hB _ m_913) hK hP d_M_lookOnce_312 ?_
                  refine lv_iconst (v := (1 : Int32)) hx hb d_M_lookOnce_315 (by decide) ?_
                  refine lv_isub hx hb d_M_lookOnce_316 ?_
                  refine lv_iconst (v := (0 : Int32)) hx hb d_M_lookOnce_317 (by decide) ?_
                  obtain ⟨hi, h⟩ := ckb_some h
                  obtain ⟨s11, es11, h⟩ := nm_some h
                  refine Ms_34 es11 hx hb hK hP hD hS hi d_M_lookOnce_318 (fun H locs hP hD hS => ?_)
                  refine lv_aload_n hx hb d_M_lookOnce_319 rfl (lv_at hl 1 rfl) ?_
                  refine lv_dup hx hb d_M_lookOnce_320 rfl ?_
                  refine Mg_0_49 hx hb hB hown (hB _ m_910) hK hP d_M_lookOnce_321 ?_
                  refine lv_iconst (v := (1 : Int32)) hx hb d_M_lookOnce_324 (by decide) ?_
                  refine lv_isub hx hb d_M_lookOnce_325 ?_
                  obtain ⟨s12, es12, h⟩ := nm_some h
                  refine Mp_0_49 es12 hx hb hB hown (hB _ m_910) hK hP hD hS d_M_lookOnce_326 (fun H locs hP hD hS => ?_)
                  refine lv_goto (tgt := 444) hx hb d_M_lookOnce_329 (by decide) ?_
                  exact rf_V (w := (fun z => wM g ca a z ++ tl)) h hx hb hr hlk hK hP hD hS d_M_lookOnce_444
              · replace h := it_t h hc
                refine lv_aload_n hx hb d_M_lookOnce_220 rfl (lv_at hl 1 rfl) ?_
                refine Mg_0_53 hx hb hB hown (hB _ m_914) hK hP d_M_lookOnce_221 ?_
                refine lv_aload_n hx hb d_M_lookOnce_224 rfl (lv_at hl 1 rfl) ?_
                refine Mg_0_52 hx hb hB hown (hB _ m_913) hK hP d_M_lookOnce_225 ?_
                refine lv_iconst (v := (1 : Int32)) hx hb d_M_lookOnce_228 (by decide) ?_
                refine lv_isub hx hb d_M_lookOnce_229 ?_
                obtain ⟨hi, h⟩ := ckb_some h
                refine Ma_33 hx hb hK hP hi d_M_lookOnce_230 ?_
                refine lv_lstore (lv' := [(5, .long (gb σ 6 (((gi σ 20) - (1 : Int32))).toNatClampNeg)), (4, .int t0), (0, .ref (a 0)), (1, .int x1), (2, .int x2), (3, .int x3)]) hx hb d_M_lookOnce_231 hl (by decide) rfl (fun ls hl => ?_)
                refine lv_aload_n hx hb d_M_lookOnce_233 rfl (lv_at hl 2 rfl) ?_
                refine Mg_0_53 hx hb hB hown (hB _ m_914) hK hP d_M_lookOnce_234 ?_
                refine lv_aload_n hx hb d_M_lookOnce_237 rfl (lv_at hl 2 rfl) ?_
                refine Mg_0_52 hx hb hB hown (hB _ m_913) hK hP d_M_lookOnce_238 ?_
                refine lv_iconst (v := (1 : Int32)) hx hb d_M_lookOnce_241 (by decide) ?_
                refine lv_isub hx hb d_M_lookOnce_242 ?_
                refine lv_lload hx hb d_M_lookOnce_243 (lv_at hl 0 rfl) ?_
                refine lv_ldc2 (v := (2 : Int64)) hx hb hown (hB _ m_1065) d_M_lookOnce_245 ?_
                refine W.lcmp hx hb d_M_lookOnce_248 ?_
                have L262 : ∀ (σ : St) (t0 : Int64) (t1 : Int32) (H : Heap) (locs : List Loc) (ls : Array Slot), va_P D vCl (wM g ca a σ ++ tl) H → va_D A (wM g ca a σ ++ tl) → va_S A s.heap H locs → lv_has ls 7 [(0, .ref (a 0))] → f_M_lookOnce_262 N σ t0 t1 = some ((), σ') → W p l e R s m args below meth c H locs 0 0 (MQ below (qb_QV D vCl (tyM ca) (wM g ca a σ' ++ tl) A) args s 0 0 A) (F0 m 262 ls [.long t0, .int t1, .ref (a 33)]) := by
                  intro σ t0 t1 H locs ls hP hD hS hl h
                  unfold f_M_lookOnce_262 at h
                  obtain ⟨hi, h⟩ := ckb_some h
                  obtain ⟨s13, es13, h⟩ := nm_some h
                  refine Ms_33 es13 hx hb hK hP hD hS hi d_M_lookOnce_262 (fun H locs hP hD hS => ?_)
                  refine lv_aload_n hx hb d_M_lookOnce_263 rfl (lv_at hl 0 rfl) ?_
                  refine lv_dup hx hb d_M_lookOnce_264 rfl ?_
                  refine Mg_0_49 hx hb hB hown (hB _ m_910) hK hP d_M_lookOnce_265 ?_
                  refine lv_iconst (v := (1 : Int32)) hx hb d_M_lookOnce_268 (by decide) ?_
                  refine lv_isub hx hb d_M_lookOnce_269 ?_
                  obtain ⟨s14, es14, h⟩ := nm_some h
                  refine Mp_0_49 es14 hx hb hB hown (hB _ m_910) hK hP hD hS d_M_lookOnce_270 (fun H locs hP hD hS => ?_)
                  refine lv_goto (tgt := 444) hx hb d_M_lookOnce_273 (by decide) ?_
                  exact rf_V (w := (fun z => wM g ca a z ++ tl)) h hx hb hr hlk hK hP hD hS d_M_lookOnce_444
                refine lv_if_ne (tgt := 258) hx hb d_M_lookOnce_249 (by decide) (fun hc => ?_) (fun hc => ?_)
                · replace h := it_f h hc
                  refine lv_lconst (v := (1 : Int64)) hx hb d_M_lookOnce_258 (by decide) ?_
                  refine lv_lload hx hb d_M_lookOnce_259 (lv_at hl 0 rfl) ?_
                  refine lv_lsub hx hb d_M_lookOnce_261 ?_
                  exact L262 σ ((1 : Int64) - (gb σ 6 (((gi σ 20) - (1 : Int32))).toNatClampNeg)) ((gi σ 20) - (1 : Int32)) H locs ls hP hD hS (lv_sub hl [2] rfl) h
                · replace h := it_t h hc
                  refine lv_ldc2 (v := (2 : Int64)) hx hb hown (hB _ m_1065) d_M_lookOnce_252 ?_
                  refine lv_goto (tgt := 262) hx hb d_M_lookOnce_255 (by decide) ?_
                  exact L262 σ (2 : Int64) ((gi σ 20) - (1 : Int32)) H locs ls hP hD hS (lv_sub hl [2] rfl) h
            · replace h := it_t h hc
              refine lv_aload_n hx hb d_M_lookOnce_194 rfl (lv_at hl 1 rfl) ?_
              refine Mg_0_51 hx hb hB hown (hB _ m_912) hK hP d_M_lookOnce_195 ?_
              refine lv_iload_n hx hb d_M_lookOnce_198 rfl (lv_at hl 2 rfl) ?_
              refine lv_iconst (v := (1 : Int32)) hx hb d_M_lookOnce_199 (by decide) ?_
              obtain ⟨hi, h⟩ := ckb_some h
              obtain ⟨s15, es15, h⟩ := nm_some h
              refine Ms_32 es15 hx hb hK hP hD hS hi d_M_lookOnce_200 (fun H locs hP hD hS => ?_)
              refine lv_aload_n hx hb d_M_lookOnce_201 rfl (lv_at hl 1 rfl) ?_
              refine lv_aload_n hx hb d_M_lookOnce_202 rfl (lv_at hl 1 rfl) ?_
              refine Mg_0_7 hx hb hB hown (hB _ m_868) hK hP d_M_lookOnce_203 ?_
              refine lv_iload_n hx hb d_M_lookOnce_206 rfl (lv_at hl 3 rfl) ?_
              obtain ⟨hi, h⟩ := ckb_some h
              refine Ma_6 hx hb hK hP hi d_M_lookOnce_207 ?_
              obtain ⟨r16, s17, hr16, h⟩ := bd_some h
              cases r16
              refine go_VV (rest := []) ⟨hx, hb, hml, hown, hB⟩ nwM_ok (c_M_push l D ca g a tl N s15 s17 (ga s15 4 (x2).toNatClampNeg) hr16) (cwx_V hB m_1126 kw_M_push ⟨by rw [hR]; decide, by rw [hR]; decide⟩ rfl rfl) (va_recv hK hP (ci := 1) (q0 := 0) rfl rfl) hN hK hP hD hS hA rfl hl.1 rfl (Nat.le_of_ble_eq_true rfl) d_M_lookOnce_208 ⟨by rw [hR]; exact Nat.le_of_ble_eq_true rfl, by rw [hR]; exact Nat.le_of_ble_eq_true rfl⟩ (fun H locs hP hD hS => ?_)
              refine lv_goto (tgt := 444) hx hb d_M_lookOnce_211 (by decide) ?_
              exact rf_V (w := (fun z => wM g ca a z ++ tl)) h hx hb hr hlk hK hP hD hS d_M_lookOnce_444
          · replace h := it_f h hc
            refine lv_aload_n hx hb d_M_lookOnce_167 rfl (lv_at hl 1 rfl) ?_
            refine lv_iload_n hx hb d_M_lookOnce_168 rfl (lv_at hl 3 rfl) ?_
            obtain ⟨r18, s19, hr18, h⟩ := bd_some h
            cases r18
            refine go_VV (rest := []) ⟨hx, hb, hml, hown, hB⟩ nwM_ok (c_M_giveAggregate l D ca g a tl N σ s19 x2 hr18) (cwx_V hB m_1182 kw_M_giveAggregate ⟨by rw [hR]; decide, by rw [hR]; decide⟩ rfl rfl) (va_recv hK hP (ci := 1) (q0 := 0) rfl rfl) hN hK hP hD hS hA rfl hl.1 rfl (Nat.le_of_ble_eq_true rfl) d_M_lookOnce_169 ⟨by rw [hR]; exact Nat.le_of_ble_eq_true rfl, by rw [hR]; exact Nat.le_of_ble_eq_true rfl⟩ (fun H locs hP hD hS => ?_)
            refine lv_aload_n hx hb d_M_lookOnce_172 rfl (lv_at hl 1 rfl) ?_
            refine lv_dup hx hb d_M_lookOnce_173 rfl ?_
            refine Mg_0_49 hx hb hB hown (hB _ m_910) hK hP d_M_lookOnce_174 ?_
            refine lv_iconst (v := (1 : Int32)) hx hb d_M_lookOnce_177 (by decide) ?_
            refine lv_isub hx hb d_M_lookOnce_178 ?_
            obtain ⟨s20, es20, h⟩ := nm_some h
            refine Mp_0_49 es20 hx hb hB hown (hB _ m_910) hK hP hD hS d_M_lookOnce_179 (fun H locs hP hD hS => ?_)
            refine lv_goto (tgt := 444) hx hb d_M_lookOnce_182 (by decide) ?_
            exact rf_V (w := (fun z => wM g ca a z ++ tl)) h hx hb hr hlk hK hP hD hS d_M_lookOnce_444
        · replace h := it_t h hc
          refine lv_aload_n hx hb d_M_lookOnce_143 rfl (lv_at hl 1 rfl) ?_
          refine lv_iload_n hx hb d_M_lookOnce_144 rfl (lv_at hl 3 rfl) ?_
          obtain ⟨r21, s22, hr21, h⟩ := bd_some h
          cases r21
          refine go_VV (rest := []) ⟨hx, hb, hml, hown, hB⟩ nwM_ok (c_M_giveColumn l D ca g a tl N σ s22 x2 hr21) (cwx_V hB m_1178 kw_M_giveColumn ⟨by rw [hR]; decide, by rw [hR]; decide⟩ rfl rfl) (va_recv hK hP (ci := 1) (q0 := 0) rfl rfl) hN hK hP hD hS hA rfl hl.1 rfl (Nat.le_of_ble_eq_true rfl) d_M_lookOnce_145 ⟨by rw [hR]; exact Nat.le_of_ble_eq_true rfl, by rw [hR]; exact Nat.le_of_ble_eq_true rfl⟩ (fun H locs hP hD hS => ?_)
          refine lv_aload_n hx hb d_M_lookOnce_148 rfl (lv_at hl 1 rfl) ?_
          refine lv_dup hx hb d_M_lookOnce_149 rfl ?_
          refine Mg_0_49 hx hb hB hown (hB _ m_910) hK hP d_M_lookOnce_150 ?_
          refine lv_iconst (v := (1 : Int32)) hx hb d_M_lookOnce_153 (by decide) ?_
          refine lv_isub hx hb d_M_lookOnce_154 ?_
          obtain ⟨s23, es23, h⟩ := nm_some h
          refine Mp_0_49 es23 hx hb hB hown (hB _ m_910) hK hP hD hS d_M_lookOnce_155 (fun H locs hP hD hS => ?_)
          refine lv_goto (tgt := 444) hx hb d_M_lookOnce_158 (by decide) ?_
          exact rf_V (w := (fun z => wM g ca a z ++ tl)) h hx hb hr hlk hK hP hD hS d_M_lookOnce_444
      · replace h := it_t h hc
        refine lv_aload_n hx hb d_M_lookOnce_95 rfl (lv_at hl 1 rfl) ?_
        refine lv_aload_n hx hb d_M_lookOnce_96 rfl (lv_at hl 1 rfl) ?_
        refine Mg_0_10 hx hb hB hown (hB _ m_871) hK hP d_M_lookOnce_97 ?_
        refine lv_iload_n hx hb d_M_lookOnce_100 rfl (lv_at hl 3 rfl) ?_
        obtain ⟨hi, h⟩ := ckb_some h
        refine Ma_9 hx hb hK hP hi d_M_lookOnce_101 ?_
        have L115 : ∀ (σ : St) (x2 : Int32) (t0 : Int64) (H : Heap) (locs : List Loc) (ls : Array Slot), va_P D vCl (wM g ca a σ ++ tl) H → va_D A (wM g ca a σ ++ tl) → va_S A s.heap H locs → lv_has ls 7 [(0, .ref (a 0)), (2, .int x2)] → f_M_lookOnce_115 N σ x2 t0 = some ((), σ') → W p l e R s m args below meth c H locs 0 0 (MQ below (qb_QV D vCl (tyM ca) (wM g ca a σ' ++ tl) A) args s 0 0 A) (F0 m 115 ls [.long t0, .ref (a 0)]) := by
          intro σ x2 t0 H locs ls hP hD hS hl h
          unfold f_M_lookOnce_115 at h
          refine lv_aload_n hx hb d_M_lookOnce_115 rfl (lv_at hl 0 rfl) ?_
          refine Mg_0_10 hx hb hB hown (hB _ m_871) hK hP d_M_lookOnce_116 ?_
          refine lv_iload_n hx hb d_M_lookOnce_119 rfl (lv_at hl 1 rfl) ?_
          obtain ⟨hi, h⟩ := ckb_some h
          refine Ma_9 hx hb hK hP hi d_M_lookOnce_120 ?_
          obtain ⟨r24, s25, hr24, h⟩ := bd_some h
          cases r24
          refine go_VV (rest := []) ⟨hx, hb, hml, hown, hB⟩ nwM_ok (c_M_give l D ca g a tl N σ s25 t0 (ga σ 6 (x2).toNatClampNeg) hr24) (cwx_V hB m_1174 kw_M_give ⟨by rw [hR]; decide, by rw [hR]; decide⟩ rfl rfl) (va_recv hK hP (ci := 1) (q0 := 0) rfl rfl) hN hK hP hD hS hA rfl hl.1 rfl (Nat.le_of_ble_eq_true rfl) d_M_lookOnce_121 ⟨by rw [hR]; exact Nat.le_of_ble_eq_true rfl, by rw [hR]; exact Nat.le_of_ble_eq_true rfl⟩ (fun H locs hP hD hS => ?_)
          refine lv_aload_n hx hb d_M_lookOnce_124 rfl (lv_at hl 0 rfl) ?_
          refine lv_dup hx hb d_M_lookOnce_125 rfl ?_
          refine Mg_0_49 hx hb hB hown (hB _ m_910) hK hP d_M_lookOnce_126 ?_
          refine lv_iconst (v := (1 : Int32)) hx hb d_M_lookOnce_129 (by decide) ?_
          refine lv_isub hx hb d_M_lookOnce_130 ?_
          obtain ⟨s26, es26, h⟩ := nm_some h
          refine Mp_0_49 es26 hx hb hB hown (hB _ m_910) hK hP hD hS d_M_lookOnce_131 (fun H locs hP hD hS => ?_)
          refine lv_goto (tgt := 444) hx hb d_M_lookOnce_134 (by decide) ?_
          exact rf_V (w := (fun z => wM g ca a z ++ tl)) h hx hb hr hlk hK hP hD hS d_M_lookOnce_444
        refine lv_if_eq (tgt := 109) hx hb d_M_lookOnce_102 (by decide) (fun hc => ?_) (fun hc => ?_)
        · replace h := it_t h hc
          refine lv_aload_n hx hb d_M_lookOnce_109 rfl (lv_at hl 1 rfl) ?_
          refine Mg_0_9 hx hb hB hown (hB _ m_870) hK hP d_M_lookOnce_110 ?_
          refine lv_iload_n hx hb d_M_lookOnce_113 rfl (lv_at hl 3 rfl) ?_
          obtain ⟨hi, h⟩ := ckb_some h
          refine Ma_8 hx hb hK hP hi d_M_lookOnce_114 ?_
          exact L115 σ x2 (gb σ 1 (x2).toNatClampNeg) H locs ls hP hD hS (lv_sub hl [1, 3] rfl) h
        · replace h := it_f h hc
          refine lv_lconst (v := (0 : Int64)) hx hb d_M_lookOnce_105 (by decide) ?_
          refine lv_goto (tgt := 115) hx hb d_M_lookOnce_106 (by decide) ?_
          exact L115 σ x2 (0 : Int64) H locs ls hP hD hS (lv_sub hl [1, 3] rfl) h
    · replace h := it_f h hc
      refine lv_aload_n hx hb d_M_lookOnce_44 rfl (lv_at hl 1 rfl) ?_
      refine lv_aload_n hx hb d_M_lookOnce_45 rfl (lv_at hl 1 rfl) ?_
      refine Mg_0_44 hx hb hB hown (hB _ m_905) hK hP d_M_lookOnce_46 ?_
      refine lv_iconst (v := (4 : Int32)) hx hb d_M_lookOnce_49 (by decide) ?_
      refine lv_aload_n hx hb d_M_lookOnce_50 rfl (lv_at hl 1 rfl) ?_
      refine Mg_0_48 hx hb hB hown (hB _ m_909) hK hP d_M_lookOnce_51 ?_
      refine lv_imul hx hb d_M_lookOnce_54 ?_
      refine lv_iload hx hb d_M_lookOnce_55 (lv_at hl 0 rfl) ?_
      refine lv_iadd hx hb d_M_lookOnce_57 ?_
      obtain ⟨hi, h⟩ := ckb_some h
      refine Ma_27 hx hb hK hP hi d_M_lookOnce_58 ?_
      refine lv_aload_n hx hb d_M_lookOnce_59 rfl (lv_at hl 1 rfl) ?_
      refine Mg_0_45 hx hb hB hown (hB _ m_906) hK hP d_M_lookOnce_60 ?_
      refine lv_iconst (v := (4 : Int32)) hx hb d_M_lookOnce_63 (by decide) ?_
      refine lv_aload_n hx hb d_M_lookOnce_64 rfl (lv_at hl 1 rfl) ?_
      refine Mg_0_48 hx hb hB hown (hB _ m_909) hK hP d_M_lookOnce_65 ?_
      refine lv_imul hx hb d_M_lookOnce_68 ?_
      refine lv_iload hx hb d_M_lookOnce_69 (lv_at hl 0 rfl) ?_
      refine lv_iadd hx hb d_M_lookOnce_71 ?_
      obtain ⟨hi, h⟩ := ckb_some h
      refine Ma_28 hx hb hK hP hi d_M_lookOnce_72 ?_
      obtain ⟨r27, s28, hr27, h⟩ := bd_some h
      cases r27
      refine go_VV (rest := []) ⟨hx, hb, hml, hown, hB⟩ nwM_ok (c_M_give l D ca g a tl N σ s28 (gb σ 4 ((((4 : Int32) * (gi σ 18)) + t0)).toNatClampNeg) (ga σ 22 ((((4 : Int32) * (gi σ 18)) + t0)).toNatClampNeg) hr27) (cwx_V hB m_1174 kw_M_give ⟨by rw [hR]; decide, by rw [hR]; decide⟩ rfl rfl) (va_recv hK hP (ci := 1) (q0 := 0) rfl rfl) hN hK hP hD hS hA rfl hl.1 rfl (Nat.le_of_ble_eq_true rfl) d_M_lookOnce_73 ⟨by rw [hR]; exact Nat.le_of_ble_eq_true rfl, by rw [hR]; exact Nat.le_of_ble_eq_true rfl⟩ (fun H locs hP hD hS => ?_)
      refine lv_aload_n hx hb d_M_lookOnce_76 rfl (lv_at hl 1 rfl) ?_
      refine lv_dup hx hb d_M_lookOnce_77 rfl ?_
      refine Mg_0_49 hx hb hB hown (hB _ m_910) hK hP d_M_lookOnce_78 ?_
      refine lv_iconst (v := (1 : Int32)) hx hb d_M_lookOnce_81 (by decide) ?_
      refine lv_isub hx hb d_M_lookOnce_82 ?_
      obtain ⟨s29, es29, h⟩ := nm_some h
      refine Mp_0_49 es29 hx hb hB hown (hB _ m_910) hK hP hD hS d_M_lookOnce_83 (fun H locs hP hD hS => ?_)
      refine lv_goto (tgt := 444) hx hb d_M_lookOnce_86 (by decide) ?_
      exact rf_V (w := (fun z => wM g ca a z ++ tl)) h hx hb hr hlk hK hP hD hS d_M_lookOnce_444
  refine lv_if_lt (tgt := 36) hx hb d_M_lookOnce_25 (by decide) (fun hc => ?_) (fun hc => ?_)
  · replace h := it_t h hc
    refine lv_iconst (v := (-1 : Int32)) hx hb d_M_lookOnce_36 (by decide) ?_
    exact L37 σ ((gi σ 19) - (1 : Int32)) (ga σ 24 (((gi σ 19) - (1 : Int32))).toNatClampNeg) (ga σ 3 ((ga σ 24 (((gi σ 19) - (1 : Int32))).toNatClampNeg)).toNatClampNeg) (-1 : Int32) H locs ls hP hD hS (lv_sub hl [3, 2, 1, 0] rfl) h
  · replace h := it_f h hc
    refine lv_aload_n hx hb d_M_lookOnce_28 rfl (lv_at hl 3 rfl) ?_
    refine lv_iload_n hx hb d_M_lookOnce_29 rfl (lv_at hl 1 rfl) ?_
    obtain ⟨r30, s31, hr30, h⟩ := bd_some h
    refine go_VI (rest := []) ⟨hx, hb, hml, hown, hB⟩ nwM_ok (c_M_groupLike l D ca g a tl N σ s31 (ga σ 24 (((gi σ 19) - (1 : Int32))).toNatClampNeg) r30 hr30) (cwx_V hB m_1142 kw_M_groupLike ⟨by rw [hR]; decide, by rw [hR]; decide⟩ rfl rfl) (va_recv hK hP (ci := 1) (q0 := 0) rfl rfl) hN hK hP hD hS hA rfl hl.1 rfl (Nat.le_of_ble_eq_true rfl) d_M_lookOnce_30 ⟨by rw [hR]; exact Nat.le_of_ble_eq_true rfl, by rw [hR]; exact Nat.le_of_ble_eq_true rfl⟩ (fun H locs hP hD hS => ?_)
    refine lv_goto (tgt := 37) hx hb d_M_lookOnce_33 (by decide) ?_
    exact L37 s31 ((gi σ 19) - (1 : Int32)) (ga σ 24 (((gi σ 19) - (1 : Int32))).toNatClampNeg) (ga σ 3 ((ga σ 24 (((gi σ 19) - (1 : Int32))).toNatClampNeg)).toNatClampNeg) r30 H locs ls hP hD hS (lv_sub hl [3, 2, 1, 0] rfl) h
