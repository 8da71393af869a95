set_option maxRecDepth 100000 in
set_option maxHeartbeats 4000000 in
theorem c_M_run (l : Launch) (D : va_G) (ca : Nat → ClassId) (g : Bool) (a : Nat → Nat) (tl : va_W) (N : Nat) (σ σ' : St) (r : Int32) (h : f_M_run N σ = some (r, σ')) : CtI l y_M_run ws_M_run rm_M_run 0 0 D vCl (tyM ca) nwM [.ref (a 0)] (wM g ca a σ ++ tl) (wM g ca a σ' ++ tl) r := by
  refine en_I (ws' := BIG) (by decide +kernel) rfl (Nat.le_of_ble_eq_true rfl) ?_
  intro p e s m below meth c A ls R args H locs hR hx hb hr hlk hml hown hB hK hN hP hD hA hS hl
  have hl : lv_has ls 2 [(0, .ref (a 0))] := hl
  unfold f_M_run at h
  refine lv_aload_n hx hb d_M_run_0 rfl (lv_at hl 0 rfl) ?_
  refine lv_iconst (v := (0 : Int32)) hx hb d_M_run_1 (by decide) ?_
  obtain ⟨s1, es1, h⟩ := nm_some h
  refine Mp_0_32 es1 hx hb hB hown (hB _ m_893) hK hP hD hS d_M_run_2 (fun H locs hP hD hS => ?_)
  refine lv_aload_n hx hb d_M_run_5 rfl (lv_at hl 0 rfl) ?_
  refine lv_iconst (v := (0 : Int32)) hx hb d_M_run_6 (by decide) ?_
  obtain ⟨s2, es2, h⟩ := nm_some h
  refine Mp_0_33 es2 hx hb hB hown (hB _ m_894) hK hP hD hS d_M_run_7 (fun H locs hP hD hS => ?_)
  refine lv_aload_n hx hb d_M_run_10 rfl (lv_at hl 0 rfl) ?_
  refine lv_aload_n hx hb d_M_run_11 rfl (lv_at hl 0 rfl) ?_
  refine Mg_0_16 hx hb hB hown (hB _ m_877) hK hP d_M_run_12 ?_
  have L30 : ∀ (σ : St) (t0 : Int32) (H : Heap) (locs : List Loc) (ls : Array Slot), va_P D vCl (wM g ca a σ ++ tl) H → va_D A (wM g ca a σ ++ tl) → va_S A s.heap H locs → lv_has ls 2 [(0, .ref (a 0))] → f_M_run_30 N σ t0 = some (r, σ') → W p l e R s m args below meth c H locs 0 0 (MQ below (qb_QI D vCl (tyM ca) (wM g ca a σ' ++ tl) A r) args s 0 0 A) (F0 m 30 ls [.int t0, .ref (a 0)]) := by
    intro σ t0 H locs ls hP hD hS hl h
    unfold f_M_run_30 at h
    obtain ⟨s3, es3, h⟩ := nm_some h
    refine Mp_0_36 es3 hx hb hB hown (hB _ m_897) hK hP hD hS d_M_run_30 (fun H locs hP hD hS => ?_)
    refine lv_aload_n hx hb d_M_run_33 rfl (lv_at hl 0 rfl) ?_
    refine lv_aload_n hx hb d_M_run_34 rfl (lv_at hl 0 rfl) ?_
    refine Mg_0_36 hx hb hB hown (hB _ m_897) hK hP d_M_run_35 ?_
    have L57 : ∀ (σ : St) (t0 : Int32) (H : Heap) (locs : List Loc) (ls : Array Slot), va_P D vCl (wM g ca a σ ++ tl) H → va_D A (wM g ca a σ ++ tl) → va_S A s.heap H locs → lv_has ls 2 [(0, .ref (a 0))] → f_M_run_57 N σ t0 = some (r, σ') → W p l e R s m args below meth c H locs 0 0 (MQ below (qb_QI D vCl (tyM ca) (wM g ca a σ' ++ tl) A r) args s 0 0 A) (F0 m 57 ls [.int t0, .ref (a 0)]) := by
      intro σ t0 H locs ls hP hD hS hl h
      unfold f_M_run_57 at h
      obtain ⟨s4, es4, h⟩ := nm_some h
      refine Mp_0_36 es4 hx hb hB hown (hB _ m_897) hK hP hD hS d_M_run_57 (fun H locs hP hD hS => ?_)
      refine lv_aload_n hx hb d_M_run_60 rfl (lv_at hl 0 rfl) ?_
      refine lv_aload_n hx hb d_M_run_61 rfl (lv_at hl 0 rfl) ?_
      refine Mg_0_36 hx hb hB hown (hB _ m_897) hK hP d_M_run_62 ?_
      have L84 : ∀ (σ : St) (t0 : Int32) (H : Heap) (locs : List Loc) (ls : Array Slot), va_P D vCl (wM g ca a σ ++ tl) H → va_D A (wM g ca a σ ++ tl) → va_S A s.heap H locs → lv_has ls 2 [(0, .ref (a 0))] → f_M_run_84 N σ t0 = some (r, σ') → W p l e R s m args below meth c H locs 0 0 (MQ below (qb_QI D vCl (tyM ca) (wM g ca a σ' ++ tl) A r) args s 0 0 A) (F0 m 84 ls [.int t0, .ref (a 0)]) := by
        intro σ t0 H locs ls hP hD hS hl h
        unfold f_M_run_84 at h
        obtain ⟨s5, es5, h⟩ := nm_some h
        refine Mp_0_36 es5 hx hb hB hown (hB _ m_897) hK hP hD hS d_M_run_84 (fun H locs hP hD hS => ?_)
        refine lv_aload_n hx hb d_M_run_87 rfl (lv_at hl 0 rfl) ?_
        refine lv_aload_n hx hb d_M_run_88 rfl (lv_at hl 0 rfl) ?_
        refine Mg_0_22 hx hb hB hown (hB _ m_883) hK hP d_M_run_89 ?_
        refine lv_if_gt (tgt := 102) hx hb d_M_run_92 (by decide) (fun hc => ?_) (fun hc => ?_)
        · replace h := it_t h hc
          refine lv_iconst (v := (1 : Int32)) hx hb d_M_run_102 (by decide) ?_
          refine lv_goto (tgt := 107) hx hb d_M_run_103 (by decide) ?_
          obtain ⟨s6, es6, h⟩ := nm_some h
          refine Mp_0_37 es6 hx hb hB hown (hB _ m_898) hK hP hD hS ⟨rfl, rfl⟩ d_M_run_107 (fun H locs hP hD hS => ?_)
          refine lv_iconst (v := (0 : Int32)) hx hb d_M_run_110 (by decide) ?_
          have L112 : ∀ (n : Nat) (σ : St) (x1 : Int32) (H : Heap) (locs : List Loc) (ls : Array Slot), va_P D vCl (wM g ca a σ ++ tl) H → va_D A (wM g ca a σ ++ tl) → va_S A s.heap H locs → lv_has ls 2 [(0, .ref (a 0)), (1, .int x1)] → f_M_run_112 N n σ x1 = some (r, σ') → W p l e R s m args below meth c H locs 0 0 (MQ below (qb_QI D vCl (tyM ca) (wM g ca a σ' ++ tl) A r) args s 0 0 A) (F0 m 112 ls []) := by
            intro n
            induction n with
            | zero => intro σ x1 H locs ls hP hD hS hl h; cases h
            | succ n ih112 =>
                intro σ x1 H locs ls hP hD hS hl h
                obtain ⟨K112, eK112⟩ : ∃ K, K = f_M_run_112 N n := ⟨_, rfl⟩
                rw [← eK112] at ih112
                replace h : f_M_run_112_b N K112 σ x1 = some (r, σ') := by rw [eK112]; exact h
                unfold f_M_run_112_b at h
                refine lv_iload_n hx hb d_M_run_112 rfl (lv_at hl 1 rfl) ?_
                refine lv_aload_n hx hb d_M_run_113 rfl (lv_at hl 0 rfl) ?_
                refine Mg_0_24 hx hb hB hown (hB _ m_885) hK hP d_M_run_114 ?_
                refine lv_icmp_ge (tgt := 156) hx hb d_M_run_117 (by decide) (fun hc => ?_) (fun hc => ?_)
                · replace h := it_t h hc
                  refine lv_aload_n hx hb d_M_run_156 rfl (lv_at hl 0 rfl) ?_
                  refine lv_aload_n hx hb d_M_run_157 rfl (lv_at hl 0 rfl) ?_
                  refine Mg_0_36 hx hb hB hown (hB _ m_897) hK hP d_M_run_158 ?_
                  have L187 : ∀ (σ : St) (t0 : Int32) (H : Heap) (locs : List Loc) (ls : Array Slot), va_P D vCl (wM g ca a σ ++ tl) H → va_D A (wM g ca a σ ++ tl) → va_S A s.heap H locs → lv_has ls 2 [(0, .ref (a 0))] → f_M_run_187 N σ t0 = some (r, σ') → W p l e R s m args below meth c H locs 0 0 (MQ below (qb_QI D vCl (tyM ca) (wM g ca a σ' ++ tl) A r) args s 0 0 A) (F0 m 187 ls [.int t0, .ref (a 0)]) := by
                    intro σ t0 H locs ls hP hD hS hl h
                    unfold f_M_run_187 at h
                    obtain ⟨s7, es7, h⟩ := nm_some h
                    refine Mp_0_36 es7 hx hb hB hown (hB _ m_897) hK hP hD hS d_M_run_187 (fun H locs hP hD hS => ?_)
                    refine lv_aload_n hx hb d_M_run_190 rfl (lv_at hl 0 rfl) ?_
                    refine Mg_0_36 hx hb hB hown (hB _ m_897) hK hP d_M_run_191 ?_
                    refine lv_if_eq (tgt := 202) hx hb d_M_run_194 (by decide) (fun hc => ?_) (fun hc => ?_)
                    · replace h := it_t h hc
                      refine lv_iconst (v := (0 : Int32)) hx hb d_M_run_202 (by decide) ?_
                      have L204 : ∀ (n : Nat) (σ : St) (x1 : Int32) (H : Heap) (locs : List Loc) (ls : Array Slot), va_P D vCl (wM g ca a σ ++ tl) H → va_D A (wM g ca a σ ++ tl) → va_S A s.heap H locs → lv_has ls 2 [(0, .ref (a 0)), (1, .int x1)] → f_M_run_204 N n σ x1 = some (r, σ') → W p l e R s m args below meth c H locs 0 0 (MQ below (qb_QI D vCl (tyM ca) (wM g ca a σ' ++ tl) A r) args s 0 0 A) (F0 m 204 ls []) := by
                        intro n
                        induction n with
                        | zero => intro σ x1 H locs ls hP hD hS hl h; cases h
                        | succ n ih204 =>
                            intro σ x1 H locs ls hP hD hS hl h
                            obtain ⟨K204, eK204⟩ : ∃ K, K = f_M_run_204 N n := ⟨_, rfl⟩
                            rw [← eK204] at ih204
                            replace h : f_M_run_204_b N K204 σ x1 = some (r, σ') := by rw [eK204]; exact h
                            unfold f_M_run_204_b at h
                            refine lv_iload_n hx hb d_M_run_204 rfl (lv_at hl 1 rfl) ?_
                            refine lv_bipush (v := (8 : Int32)) hx hb d_M_run_205 (by decide) ?_
                            refine lv_icmp_ge (tgt := 223) hx hb d_M_run_207 (by decide) (fun hc => ?_) (fun hc => ?_)
                            · replace h := it_t h hc
                              refine lv_aload_n hx hb d_M_run_223 rfl (lv_at hl 0 rfl) ?_
                              refine Mg_0_21 hx hb hB hown (hB _ m_882) hK hP d_M_run_224 ?_
                              refine lv_if_lt (tgt := 238) hx hb d_M_run_227 (by decide) (fun hc => ?_) (fun hc => ?_)
                              · replace h := it_t h hc
                                refine lv_iconst (v := (0 : Int32)) hx hb d_M_run_238 (by decide) ?_
                                have L240 : ∀ (n : Nat) (σ : St) (x1 : Int32) (H : Heap) (locs : List Loc) (ls : Array Slot), va_P D vCl (wM g ca a σ ++ tl) H → va_D A (wM g ca a σ ++ tl) → va_S A s.heap H locs → lv_has ls 2 [(0, .ref (a 0)), (1, .int x1)] → f_M_run_240 N n σ x1 = some (r, σ') → W p l e R s m args below meth c H locs 0 0 (MQ below (qb_QI D vCl (tyM ca) (wM g ca a σ' ++ tl) A r) args s 0 0 A) (F0 m 240 ls []) := by
                                  intro n
                                  induction n with
                                  | zero => intro σ x1 H locs ls hP hD hS hl h; cases h
                                  | succ n ih240 =>
                                      intro σ x1 H locs ls hP hD hS hl h
                                      obtain ⟨K240, eK240⟩ : ∃ K, K = f_M_run_240 N n := ⟨_, rfl⟩
                                      rw [← eK240] at ih240
                                      replace h : f_M_run_240_b N K240 σ x1 = some (r, σ') := by rw [eK240]; exact h
                                      unfold f_M_run_240_b at h
                                      refine lv_iload_n hx hb d_M_run_240 rfl (lv_at hl 1 rfl) ?_
                                      refine lv_aload_n hx hb d_M_run_241 rfl (lv_at hl 0 rfl) ?_
                                      refine Mg_0_24 hx hb hB hown (hB _ m_885) hK hP d_M_run_242 ?_
                                      refine lv_icmp_ge (tgt := 264) hx hb d_M_run_245 (by decide) (fun hc => ?_) (fun hc => ?_)
                                      · replace h := it_t h hc
                                        refine lv_aload_n hx hb d_M_run_264 rfl (lv_at hl 0 rfl) ?_
                                        refine lv_iconst (v := (0 : Int32)) hx hb d_M_run_265 (by decide) ?_
                                        obtain ⟨s8, es8, h⟩ := nm_some h
                                        refine Mp_0_39 es8 hx hb hB hown (hB _ m_900) hK hP hD hS d_M_run_266 (fun H locs hP hD hS => ?_)
                                        refine lv_aload_n hx hb d_M_run_269 rfl (lv_at hl 0 rfl) ?_
                                        refine lv_iconst (v := (0 : Int32)) hx hb d_M_run_270 (by decide) ?_
                                        obtain ⟨s9, es9, h⟩ := nm_some h
                                        refine Mp_0_43 es9 hx hb hB hown (hB _ m_904) hK hP hD hS d_M_run_271 (fun H locs hP hD hS => ?_)
                                        refine lv_aload_n hx hb d_M_run_274 rfl (lv_at hl 0 rfl) ?_
                                        refine lv_iconst (v := (-1 : Int32)) hx hb d_M_run_275 (by decide) ?_
                                        obtain ⟨s10, es10, h⟩ := nm_some h
                                        refine Mp_0_48 es10 hx hb hB hown (hB _ m_909) hK hP hD hS d_M_run_276 (fun H locs hP hD hS => ?_)
                                        refine lv_aload_n hx hb d_M_run_279 rfl (lv_at hl 0 rfl) ?_
                                        obtain ⟨r11, s12, hr11, h⟩ := bd_some h
                                        cases r11
                                        refine go_VV (rest := []) ⟨hx, hb, hml, hown, hB⟩ nwM_ok (c_M_goFirst l D ca g a tl N s10 s12 hr11) (cwx_V hB m_1150 kw_M_goFirst ⟨by rw [hR]; decide, by rw [hR]; decide⟩ rfl rfl) (va_recv hK hP (ci := 1) (q0 := 0) rfl rfl) hN hK hP hD hS hA rfl hl.1 rfl (Nat.le_of_ble_eq_true rfl) d_M_run_280 ⟨by rw [hR]; exact Nat.le_of_ble_eq_true rfl, by rw [hR]; exact Nat.le_of_ble_eq_true rfl⟩ (fun H locs hP hD hS => ?_)
                                        refine lv_aload_n hx hb d_M_run_283 rfl (lv_at hl 0 rfl) ?_
                                        refine Mg_0_37 hx hb hB hown (hB _ m_898) hK hP d_M_run_284 ?_
                                        have L301 : ∀ (σ : St) (H : Heap) (locs : List Loc) (ls : Array Slot), va_P D vCl (wM g ca a σ ++ tl) H → va_D A (wM g ca a σ ++ tl) → va_S A s.heap H locs → lv_has ls 2 [(0, .ref (a 0))] → f_M_run_301 N σ = some (r, σ') → W p l e R s m args below meth c H locs 0 0 (MQ below (qb_QI D vCl (tyM ca) (wM g ca a σ' ++ tl) A r) args s 0 0 A) (F0 m 301 ls []) := by
                                          intro σ H locs ls hP hD hS hl h
                                          unfold f_M_run_301 at h
                                          refine lv_aload_n hx hb d_M_run_301 rfl (lv_at hl 0 rfl) ?_
                                          refine Mg_0_36 hx hb hB hown (hB _ m_897) hK hP d_M_run_302 ?_
                                          refine lv_if_eq (tgt := 318) hx hb d_M_run_305 (by decide) (fun hc => ?_) (fun hc => ?_)
                                          · replace h := it_t h hc
                                            refine lv_aload_n hx hb d_M_run_318 rfl (lv_at hl 0 rfl) ?_
                                            refine Mg_0_29 hx hb hB hown (hB _ m_890) hK hP d_M_run_319 ?_
                                            have L329 : ∀ (σ : St) (H : Heap) (locs : List Loc) (ls : Array Slot), va_P D vCl (wM g ca a σ ++ tl) H → va_D A (wM g ca a σ ++ tl) → va_S A s.heap H locs → lv_has ls 2 [(0, .ref (a 0))] → f_M_run_329 N σ = some (r, σ') → W p l e R s m args below meth c H locs 0 0 (MQ below (qb_QI D vCl (tyM ca) (wM g ca a σ' ++ tl) A r) args s 0 0 A) (F0 m 329 ls []) := by
                                              intro σ H locs ls hP hD hS hl h
                                              unfold f_M_run_329 at h
                                              refine lv_aload_n hx hb d_M_run_329 rfl (lv_at hl 0 rfl) ?_
                                              obtain ⟨r13, s14, hr13, h⟩ := bd_some h
                                              cases r13
                                              refine go_VV (rest := []) ⟨hx, hb, hml, hown, hB⟩ nwM_ok (c_M_sort l D ca g a tl N σ s14 hr13) (cwx_V hB m_1245 kw_M_sort ⟨by rw [hR]; decide, by rw [hR]; decide⟩ rfl rfl) (va_recv hK hP (ci := 1) (q0 := 0) rfl rfl) hN hK hP hD hS hA rfl hl.1 rfl (Nat.le_of_ble_eq_true rfl) d_M_run_330 ⟨by rw [hR]; exact Nat.le_of_ble_eq_true rfl, by rw [hR]; exact Nat.le_of_ble_eq_true rfl⟩ (fun H locs hP hD hS => ?_)
                                              refine lv_aload_n hx hb d_M_run_333 rfl (lv_at hl 0 rfl) ?_
                                              obtain ⟨r15, s16, hr15, h⟩ := bd_some h
                                              cases r15
                                              refine go_VV (rest := []) ⟨hx, hb, hml, hown, hB⟩ nwM_ok (c_M_cut l D ca g a tl N s14 s16 hr15) (cwx_V hB m_1253 kw_M_cut ⟨by rw [hR]; decide, by rw [hR]; decide⟩ rfl rfl) (va_recv hK hP (ci := 1) (q0 := 0) rfl rfl) hN hK hP hD hS hA rfl hl.1 rfl (Nat.le_of_ble_eq_true rfl) d_M_run_334 ⟨by rw [hR]; exact Nat.le_of_ble_eq_true rfl, by rw [hR]; exact Nat.le_of_ble_eq_true rfl⟩ (fun H locs hP hD hS => ?_)
                                              refine lv_aload_n hx hb d_M_run_337 rfl (lv_at hl 0 rfl) ?_
                                              refine lv_aload_n hx hb d_M_run_338 rfl (lv_at hl 0 rfl) ?_
                                              refine Mg_0_24 hx hb hB hown (hB _ m_885) hK hP d_M_run_339 ?_
                                              obtain ⟨s17, es17, h⟩ := nm_some h
                                              refine Mp_0_33 es17 hx hb hB hown (hB _ m_894) hK hP hD hS d_M_run_342 (fun H locs hP hD hS => ?_)
                                              refine lv_aload_n hx hb d_M_run_345 rfl (lv_at hl 0 rfl) ?_
                                              refine Mg_0_32 hx hb hB hown (hB _ m_893) hK hP d_M_run_346 ?_
                                              exact rf_I (w := (fun z => wM g ca a z ++ tl)) h hx hb hr hlk hK hP hD hS d_M_run_349
                                            refine lv_if_eq (tgt := 329) hx hb d_M_run_322 (by decide) (fun hc => ?_) (fun hc => ?_)
                                            · replace h := it_t h hc
                                              exact L329 σ H locs ls hP hD hS (lv_sub hl [0] rfl) h
                                            · replace h := it_f h hc
                                              refine lv_aload_n hx hb d_M_run_325 rfl (lv_at hl 0 rfl) ?_
                                              obtain ⟨r18, s19, hr18, h⟩ := bd_some h
                                              cases r18
                                              refine go_VV (rest := []) ⟨hx, hb, hml, hown, hB⟩ nwM_ok (c_M_leaveOut l D ca g a tl N σ s19 hr18) (cwx_V hB m_1233 kw_M_leaveOut ⟨by rw [hR]; decide, by rw [hR]; decide⟩ rfl rfl) (va_recv hK hP (ci := 1) (q0 := 0) rfl rfl) hN hK hP hD hS hA rfl hl.1 rfl (Nat.le_of_ble_eq_true rfl) d_M_run_326 ⟨by rw [hR]; exact Nat.le_of_ble_eq_true rfl, by rw [hR]; exact Nat.le_of_ble_eq_true rfl⟩ (fun H locs hP hD hS => ?_)
                                              exact L329 s19 H locs ls hP hD hS (lv_sub hl [0] rfl) h
                                          · replace h := it_f h hc
                                            refine lv_aload_n hx hb d_M_run_308 rfl (lv_at hl 0 rfl) ?_
                                            refine lv_iconst (v := (0 : Int32)) hx hb d_M_run_309 (by decide) ?_
                                            obtain ⟨s20, es20, h⟩ := nm_some h
                                            refine Mp_0_32 es20 hx hb hB hown (hB _ m_893) hK hP hD hS d_M_run_310 (fun H locs hP hD hS => ?_)
                                            refine lv_aload_n hx hb d_M_run_313 rfl (lv_at hl 0 rfl) ?_
                                            refine Mg_0_36 hx hb hB hown (hB _ m_897) hK hP d_M_run_314 ?_
                                            exact rf_I (w := (fun z => wM g ca a z ++ tl)) h hx hb hr hlk hK hP hD hS d_M_run_317
                                        refine lv_if_eq (tgt := 301) hx hb d_M_run_287 (by decide) (fun hc => ?_) (fun hc => ?_)
                                        · replace h := it_t h hc
                                          exact L301 s12 H locs ls hP hD hS (lv_sub hl [0] rfl) h
                                        · replace h := it_f h hc
                                          refine lv_aload_n hx hb d_M_run_290 rfl (lv_at hl 0 rfl) ?_
                                          refine Mg_0_36 hx hb hB hown (hB _ m_897) hK hP d_M_run_291 ?_
                                          refine lv_if_ne (tgt := 301) hx hb d_M_run_294 (by decide) (fun hc => ?_) (fun hc => ?_)
                                          · replace h := it_f h hc
                                            exact L301 s12 H locs ls hP hD hS (lv_sub hl [0] rfl) h
                                          · replace h := it_t h hc
                                            refine lv_aload_n hx hb d_M_run_297 rfl (lv_at hl 0 rfl) ?_
                                            obtain ⟨r21, s22, hr21, h⟩ := bd_some h
                                            cases r21
                                            refine go_VV (rest := []) ⟨hx, hb, hml, hown, hB⟩ nwM_ok (c_M_goThroughGroups l D ca g a tl N s12 s22 hr21) (cwx_V hB m_1229 kw_M_goThroughGroups ⟨by rw [hR]; decide, by rw [hR]; decide⟩ rfl rfl) (va_recv hK hP (ci := 1) (q0 := 0) rfl rfl) hN hK hP hD hS hA rfl hl.1 rfl (Nat.le_of_ble_eq_true rfl) d_M_run_298 ⟨by rw [hR]; exact Nat.le_of_ble_eq_true rfl, by rw [hR]; exact Nat.le_of_ble_eq_true rfl⟩ (fun H locs hP hD hS => ?_)
                                            exact L301 s22 H locs ls hP hD hS (lv_sub hl [0] rfl) h
                                      · replace h := it_f h hc
                                        refine lv_aload_n hx hb d_M_run_248 rfl (lv_at hl 0 rfl) ?_
                                        refine lv_aload_n hx hb d_M_run_249 rfl (lv_at hl 0 rfl) ?_
                                        refine Mg_0_25 hx hb hB hown (hB _ m_886) hK hP d_M_run_250 ?_
                                        refine lv_iload_n hx hb d_M_run_253 rfl (lv_at hl 1 rfl) ?_
                                        obtain ⟨hi, h⟩ := ckb_some h
                                        refine Ma_18 hx hb hK hP hi d_M_run_254 ?_
                                        obtain ⟨r23, s24, hr23, h⟩ := bd_some h
                                        cases r23
                                        refine go_VV (rest := []) ⟨hx, hb, hml, hown, hB⟩ nwM_ok (c_M_ask l D ca g a tl N σ s24 (ga σ 15 (x1).toNatClampNeg) hr23) (cwx_V hB m_1146 kw_M_ask ⟨by rw [hR]; decide, by rw [hR]; decide⟩ rfl rfl) (va_recv hK hP (ci := 1) (q0 := 0) rfl rfl) hN hK hP hD hS hA rfl hl.1 rfl (Nat.le_of_ble_eq_true rfl) d_M_run_255 ⟨by rw [hR]; exact Nat.le_of_ble_eq_true rfl, by rw [hR]; exact Nat.le_of_ble_eq_true rfl⟩ (fun H locs hP hD hS => ?_)
                                        refine lv_iinc (v := (x1 + 1)) (lv' := [(1, .int (x1 + 1)), (0, .ref (a 0))]) hx hb d_M_run_258 hl (k := 1) rfl rfl (by decide) rfl (fun ls hl => ?_)
                                        refine lv_goto (tgt := 240) hx hb d_M_run_261 (by decide) ?_
                                        exact ih240 s24 (x1 + 1) H locs ls hP hD hS (lv_sub hl [1, 0] rfl) h
                                refine lv_istore_n (lv' := [(1, .int (0 : Int32)), (0, .ref (a 0))]) hx hb d_M_run_239 rfl hl (by decide) rfl (fun ls hl => ?_)
                                exact L240 N σ (0 : Int32) H locs ls hP hD hS (lv_sub hl [1, 0] rfl) h
                              · replace h := it_f h hc
                                refine lv_aload_n hx hb d_M_run_230 rfl (lv_at hl 0 rfl) ?_
                                refine lv_aload_n hx hb d_M_run_231 rfl (lv_at hl 0 rfl) ?_
                                refine Mg_0_21 hx hb hB hown (hB _ m_882) hK hP d_M_run_232 ?_
                                obtain ⟨r25, s26, hr25, h⟩ := bd_some h
                                cases r25
                                refine go_VV (rest := []) ⟨hx, hb, hml, hown, hB⟩ nwM_ok (c_M_ask l D ca g a tl N σ s26 (gi σ 5) hr25) (cwx_V hB m_1146 kw_M_ask ⟨by rw [hR]; decide, by rw [hR]; decide⟩ rfl rfl) (va_recv hK hP (ci := 1) (q0 := 0) rfl rfl) hN hK hP hD hS hA rfl hl.1 rfl (Nat.le_of_ble_eq_true rfl) d_M_run_235 ⟨by rw [hR]; exact Nat.le_of_ble_eq_true rfl, by rw [hR]; exact Nat.le_of_ble_eq_true rfl⟩ (fun H locs hP hD hS => ?_)
                                refine lv_iconst (v := (0 : Int32)) hx hb d_M_run_238 (by decide) ?_
                                have L240 : ∀ (n : Nat) (σ : St) (x1 : Int32) (H : Heap) (locs : List Loc) (ls : Array Slot), va_P D vCl (wM g ca a σ ++ tl) H → va_D A (wM g ca a σ ++ tl) → va_S A s.heap H locs → lv_has ls 2 [(0, .ref (a 0)), (1, .int x1)] → f_M_run_240 N n σ x1 = some (r, σ') → W p l e R s m args below meth c H locs 0 0 (MQ below (qb_QI D vCl (tyM ca) (wM g ca a σ' ++ tl) A r) args s 0 0 A) (F0 m 240 ls []) := by
                                  intro n
                                  induction n with
                                  | zero => intro σ x1 H locs ls hP hD hS hl h; cases h
                                  | succ n ih240 =>
                                      intro σ x1 H locs ls hP hD hS hl h
                                      obtain ⟨K240, eK240⟩ : ∃ K, K = f_M_run_240 N n := ⟨_, rfl⟩
                                      rw [← eK240] at ih240
                                      replace h : f_M_run_240_b N K240 σ x1 = some (r, σ') := by rw [eK240]; exact h
                                      unfold f_M_run_240_b at h
                                      refine lv_iload_n hx hb d_M_run_240 rfl (lv_at hl 1 rfl) ?_
                                      refine lv_aload_n hx hb d_M_run_241 rfl (lv_at hl 0 rfl) ?_
                                      refine Mg_0_24 hx hb hB hown (hB _ m_885) hK hP d_M_run_242 ?_
                                      refine lv_icmp_ge (tgt := 264) hx hb d_M_run_245 (by decide) (fun hc => ?_) (fun hc => ?_)
                                      · replace h := it_t h hc
                                        refine lv_aload_n hx hb d_M_run_264 rfl (lv_at hl 0 rfl) ?_
                                        refine lv_iconst (v := (0 : Int32)) hx hb d_M_run_265 (by decide) ?_
                                        obtain ⟨s27, es27, h⟩ := nm_some h
                                        refine Mp_0_39 es27 hx hb hB hown (hB _ m_900) hK hP hD hS d_M_run_266 (fun H locs hP hD hS => ?_)
                                        refine lv_aload_n hx hb d_M_run_269 rfl (lv_at hl 0 rfl) ?_
                                        refine lv_iconst (v := (0 : Int32)) hx hb d_M_run_270 (by decide) ?_
                                        obtain ⟨s28, es28, h⟩ := nm_some h
                                        refine Mp_0_43 es28 hx hb hB hown (hB _ m_904) hK hP hD hS d_M_run_271 (fun H locs hP hD hS => ?_)
                                        refine lv_aload_n hx hb d_M_run_274 rfl (lv_at hl 0 rfl) ?_
                                        refine lv_iconst (v := (-1 : Int32)) hx hb d_M_run_275 (by decide) ?_
                                        obtain ⟨s29, es29, h⟩ := nm_some h
                                        refine Mp_0_48 es29 hx hb hB hown (hB _ m_909) hK hP hD hS d_M_run_276 (fun H locs hP hD hS => ?_)
                                        refine lv_aload_n hx hb d_M_run_279 rfl (lv_at hl 0 rfl) ?_
                                        obtain ⟨r30, s31, hr30, h⟩ := bd_some h
                                        cases r30
                                        refine go_VV (rest := []) ⟨hx, hb, hml, hown, hB⟩ nwM_ok (c_M_goFirst l D ca g a tl N s29 s31 hr30) (cwx_V hB m_1150 kw_M_goFirst ⟨by rw [hR]; decide, by rw [hR]; decide⟩ rfl rfl) (va_recv hK hP (ci := 1) (q0 := 0) rfl rfl) hN hK hP hD hS hA rfl hl.1 rfl (Nat.le_of_ble_eq_true rfl) d_M_run_280 ⟨by rw [hR]; exact Nat.le_of_ble_eq_true rfl, by rw [hR]; exact Nat.le_of_ble_eq_true rfl⟩ (fun H locs hP hD hS => ?_)
                                        refine lv_aload_n hx hb d_M_run_283 rfl (lv_at hl 0 rfl) ?_
                                        refine Mg_0_37 hx hb hB hown (hB _ m_898) hK hP d_M_run_284 ?_
                                        have L301 : ∀ (σ : St) (H : Heap) (locs : List Loc) (ls : Array Slot), va_P D vCl (wM g ca a σ ++ tl) H → va_D A (wM g ca a σ ++ tl) → va_S A s.heap H locs → lv_has ls 2 [(0, .ref (a 0))] → f_M_run_301 N σ = some (r, σ') → W p l e R s m args below meth c H locs 0 0 (MQ below (qb_QI D vCl (tyM ca) (wM g ca a σ' ++ tl) A r) args s 0 0 A) (F0 m 301 ls []) := by
                                          intro σ H locs ls hP hD hS hl h
                                          unfold f_M_run_301 at h
                                          refine lv_aload_n hx hb d_M_run_301 rfl (lv_at hl 0 rfl) ?_
                                          refine Mg_0_36 hx hb hB hown (hB _ m_897) hK hP d_M_run_302 ?_
                                          refine lv_if_eq (tgt := 318) hx hb d_M_run_305 (by decide) (fun hc => ?_) (fun hc => ?_)
                                          · replace h := it_t h hc
                                            refine lv_aload_n hx hb d_M_run_318 rfl (lv_at hl 0 rfl) ?_
                                            refine Mg_0_29 hx hb hB hown (hB _ m_890) hK hP d_M_run_319 ?_
                                            have L329 : ∀ (σ : St) (H : Heap) (locs : List Loc) (ls : Array Slot), va_P D vCl (wM g ca a σ ++ tl) H → va_D A (wM g ca a σ ++ tl) → va_S A s.heap H locs → lv_has ls 2 [(0, .ref (a 0))] → f_M_run_329 N σ = some (r, σ') → W p l e R s m args below meth c H locs 0 0 (MQ below (qb_QI D vCl (tyM ca) (wM g ca a σ' ++ tl) A r) args s 0 0 A) (F0 m 329 ls []) := by
                                              intro σ H locs ls hP hD hS hl h
                                              unfold f_M_run_329 at h
                                              refine lv_aload_n hx hb d_M_run_329 rfl (lv_at hl 0 rfl) ?_
                                              obtain ⟨r32, s33, hr32, h⟩ := bd_some h
                                              cases r32
                                              refine go_VV (rest := []) ⟨hx, hb, hml, hown, hB⟩ nwM_ok (c_M_sort l D ca g a tl N σ s33 hr32) (cwx_V hB m_1245 kw_M_sort ⟨by rw [hR]; decide, by rw [hR]; decide⟩ rfl rfl) (va_recv hK hP (ci := 1) (q0 := 0) rfl rfl) hN hK hP hD hS hA rfl hl.1 rfl (Nat.le_of_ble_eq_true rfl) d_M_run_330 ⟨by rw [hR]; exact Nat.le_of_ble_eq_true rfl, by rw [hR]; exact Nat.le_of_ble_eq_true rfl⟩ (fun H locs hP hD hS => ?_)
                                              refine lv_aload_n hx hb d_M_run_333 rfl (lv_at hl 0 rfl) ?_
                                              obtain ⟨r34, s35, hr34, h⟩ := bd_some h
                                              cases r34
                                              refine go_VV (rest := []) ⟨hx, hb, hml, hown, hB⟩ nwM_ok (c_M_cut l D ca g a tl N s33 s35 hr34) (cwx_V hB m_1253 kw_M_cut ⟨by rw [hR]; decide, by rw [hR]; decide⟩ rfl rfl) (va_recv hK hP (ci := 1) (q0 := 0) rfl rfl) hN hK hP hD hS hA rfl hl.1 rfl (Nat.le_of_ble_eq_true rfl) d_M_run_334 ⟨by rw [hR]; exact Nat.le_of_ble_eq_true rfl, by rw [hR]; exact Nat.le_of_ble_eq_true rfl⟩ (fun H locs hP hD hS => ?_)
                                              refine lv_aload_n hx hb d_M_run_337 rfl (lv_at hl 0 rfl) ?_
                                              refine lv_aload_n hx hb d_M_run_338 rfl (lv_at hl 0 rfl) ?_
                                              refine Mg_0_24 hx hb hB hown (hB _ m_885) hK hP d_M_run_339 ?_
                                              obtain ⟨s36, es36, h⟩ := nm_some h
                                              refine Mp_0_33 es36 hx hb hB hown (hB _ m_894) hK hP hD hS d_M_run_342 (fun H locs hP hD hS => ?_)
                                              refine lv_aload_n hx hb d_M_run_345 rfl (lv_at hl 0 rfl) ?_
                                              refine Mg_0_32 hx hb hB hown (hB _ m_893) hK hP d_M_run_346 ?_
                                              exact rf_I (w := (fun z => wM g ca a z ++ tl)) h hx hb hr hlk hK hP hD hS d_M_run_349
                                            refine lv_if_eq (tgt := 329) hx hb d_M_run_322 (by decide) (fun hc => ?_) (fun hc => ?_)
                                            · replace h := it_t h hc
                                              exact L329 σ H locs ls hP hD hS (lv_sub hl [0] rfl) h
                                            · replace h := it_f h hc
                                              refine lv_aload_n hx hb d_M_run_325 rfl (lv_at hl 0 rfl) ?_
                                              obtain ⟨r37, s38, hr37, h⟩ := bd_some h
                                              cases r37
                                              refine go_VV (rest := []) ⟨hx, hb, hml, hown, hB⟩ nwM_ok (c_M_leaveOut l D ca g a tl N σ s38 hr37) (cwx_V hB m_1233 kw_M_leaveOut ⟨by rw [hR]; decide, by rw [hR]; decide⟩ rfl rfl) (va_recv hK hP (ci := 1) (q0 := 0) rfl rfl) hN hK hP hD hS hA rfl hl.1 rfl (Nat.le_of_ble_eq_true rfl) d_M_run_326 ⟨by rw [hR]; exact Nat.le_of_ble_eq_true rfl, by rw [hR]; exact Nat.le_of_ble_eq_true rfl⟩ (fun H locs hP hD hS => ?_)
                                              exact L329 s38 H locs ls hP hD hS (lv_sub hl [0] rfl) h
                                          · replace h := it_f h hc
                                            refine lv_aload_n hx hb d_M_run_308 rfl (lv_at hl 0 rfl) ?_
                                            refine lv_iconst (v := (0 : Int32)) hx hb d_M_run_309 (by decide) ?_
                                            obtain ⟨s39, es39, h⟩ := nm_some h
                                            refine Mp_0_32 es39 hx hb hB hown (hB _ m_893) hK hP hD hS d_M_run_310 (fun H locs hP hD hS => ?_)
                                            refine lv_aload_n hx hb d_M_run_313 rfl (lv_at hl 0 rfl) ?_
                                            refine Mg_0_36 hx hb hB hown (hB _ m_897) hK hP d_M_run_314 ?_
                                            exact rf_I (w := (fun z => wM g ca a z ++ tl)) h hx hb hr hlk hK hP hD hS d_M_run_317
                                        refine lv_if_eq (tgt := 301) hx hb d_M_run_287 (by decide) (fun hc => ?_) (fun hc => ?_)
                                        · replace h := it_t h hc
                                          exact L301 s31 H locs ls hP hD hS (lv_sub hl [0] rfl) h
                                        · replace h := it_f h hc
                                          refine lv_aload_n hx hb d_M_run_290 rfl (lv_at hl 0 rfl) ?_
                                          refine Mg_0_36 hx hb hB hown (hB _ m_897) hK hP d_M_run_291 ?_
                                          refine lv_if_ne (tgt := 301) hx hb d_M_run_294 (by decide) (fun hc => ?_) (fun hc => ?_)
                                          · replace h := it_f h hc
                                            exact L301 s31 H locs ls hP hD hS (lv_sub hl [0] rfl) h
                                          · replace h := it_t h hc
                                            refine lv_aload_n hx hb d_M_run_297 rfl (lv_at hl 0 rfl) ?_
                                            obtain ⟨r40, s41, hr40, h⟩ := bd_some h
                                            cases r40
                                            refine go_VV (rest := []) ⟨hx, hb, hml, hown, hB⟩ nwM_ok (c_M_goThroughGroups l D ca g a tl N s31 s41 hr40) (cwx_V hB m_1229 kw_M_goThroughGroups ⟨by rw [hR]; decide, by rw [hR]; decide⟩ rfl rfl) (va_recv hK hP (ci := 1) (q0 := 0) rfl rfl) hN hK hP hD hS hA rfl hl.1 rfl (Nat.le_of_ble_eq_true rfl) d_M_run_298 ⟨by rw [hR]; exact Nat.le_of_ble_eq_true rfl, by rw [hR]; exact Nat.le_of_ble_eq_true rfl⟩ (fun H locs hP hD hS => ?_)
                                            exact L301 s41 H locs ls hP hD hS (lv_sub hl [0] rfl) h
                                      · replace h := it_f h hc
                                        refine lv_aload_n hx hb d_M_run_248 rfl (lv_at hl 0 rfl) ?_
                                        refine lv_aload_n hx hb d_M_run_249 rfl (lv_at hl 0 rfl) ?_
                                        refine Mg_0_25 hx hb hB hown (hB _ m_886) hK hP d_M_run_250 ?_
                                        refine lv_iload_n hx hb d_M_run_253 rfl (lv_at hl 1 rfl) ?_
                                        obtain ⟨hi, h⟩ := ckb_some h
                                        refine Ma_18 hx hb hK hP hi d_M_run_254 ?_
                                        obtain ⟨r42, s43, hr42, h⟩ := bd_some h
                                        cases r42
                                        refine go_VV (rest := []) ⟨hx, hb, hml, hown, hB⟩ nwM_ok (c_M_ask l D ca g a tl N σ s43 (ga σ 15 (x1).toNatClampNeg) hr42) (cwx_V hB m_1146 kw_M_ask ⟨by rw [hR]; decide, by rw [hR]; decide⟩ rfl rfl) (va_recv hK hP (ci := 1) (q0 := 0) rfl rfl) hN hK hP hD hS hA rfl hl.1 rfl (Nat.le_of_ble_eq_true rfl) d_M_run_255 ⟨by rw [hR]; exact Nat.le_of_ble_eq_true rfl, by rw [hR]; exact Nat.le_of_ble_eq_true rfl⟩ (fun H locs hP hD hS => ?_)
                                        refine lv_iinc (v := (x1 + 1)) (lv' := [(1, .int (x1 + 1)), (0, .ref (a 0))]) hx hb d_M_run_258 hl (k := 1) rfl rfl (by decide) rfl (fun ls hl => ?_)
                                        refine lv_goto (tgt := 240) hx hb d_M_run_261 (by decide) ?_
                                        exact ih240 s43 (x1 + 1) H locs ls hP hD hS (lv_sub hl [1, 0] rfl) h
                                refine lv_istore_n (lv' := [(1, .int (0 : Int32)), (0, .ref (a 0))]) hx hb d_M_run_239 rfl hl (by decide) rfl (fun ls hl => ?_)
                                exact L240 N s26 (0 : Int32) H locs ls hP hD hS (lv_sub hl [1, 0] rfl) h
                            · replace h := it_f h hc
                              refine lv_aload_n hx hb d_M_run_210 rfl (lv_at hl 0 rfl) ?_
                              refine Mg_0_47 hx hb hB hown (hB _ m_908) hK hP d_M_run_211 ?_
                              refine lv_iload_n hx hb d_M_run_214 rfl (lv_at hl 1 rfl) ?_
                              refine lv_iconst (v := (0 : Int32)) hx hb d_M_run_215 (by decide) ?_
                              obtain ⟨hi, h⟩ := ckb_some h
                              obtain ⟨s44, es44, h⟩ := nm_some h
                              refine Ms_30 es44 hx hb hK hP hD hS hi d_M_run_216 (fun H locs hP hD hS => ?_)
                              refine lv_iinc (v := (x1 + 1)) (lv' := [(1, .int (x1 + 1)), (0, .ref (a 0))]) hx hb d_M_run_217 hl (k := 1) rfl rfl (by decide) rfl (fun ls hl => ?_)
                              refine lv_goto (tgt := 204) hx hb d_M_run_220 (by decide) ?_
                              exact ih204 s44 (x1 + 1) H locs ls hP hD hS (lv_sub hl [1, 0] rfl) h
                      refine lv_istore_n (lv' := [(1, .int (0 : Int32)), (0, .ref (a 0))]) hx hb d_M_run_203 rfl hl (by decide) rfl (fun ls hl => ?_)
                      exact L204 N s7 (0 : Int32) H locs ls hP hD hS (lv_sub hl [1, 0] rfl) h
                    · replace h := it_f h hc
                      refine lv_aload_n hx hb d_M_run_197 rfl (lv_at hl 0 rfl) ?_
                      refine Mg_0_36 hx hb hB hown (hB _ m_897) hK hP d_M_run_198 ?_
                      exact rf_I (w := (fun z => wM g ca a z ++ tl)) h hx hb hr hlk hK hP hD hS d_M_run_201
                  have L183 : ∀ (σ : St) (H : Heap) (locs : List Loc) (ls : Array Slot), va_P D vCl (wM g ca a σ ++ tl) H → va_D A (wM g ca a σ ++ tl) → va_S A s.heap H locs → lv_has ls 2 [(0, .ref (a 0))] → f_M_run_183 N σ = some (r, σ') → W p l e R s m args below meth c H locs 0 0 (MQ below (qb_QI D vCl (tyM ca) (wM g ca a σ' ++ tl) A r) args s 0 0 A) (F0 m 183 ls [.ref (a 0)]) := by
                    intro σ H locs ls hP hD hS hl h
                    unfold f_M_run_183 at h
                    refine lv_aload_n hx hb d_M_run_183 rfl (lv_at hl 0 rfl) ?_
                    refine Mg_0_36 hx hb hB hown (hB _ m_897) hK hP d_M_run_184 ?_
                    exact L187 σ (gi σ 14) H locs ls hP hD hS (lv_sub hl [0] rfl) h
                  refine lv_if_ne (tgt := 183) hx hb d_M_run_161 (by decide) (fun hc => ?_) (fun hc => ?_)
                  · replace h := it_f h hc
                    exact L183 σ H locs ls hP hD hS (lv_sub hl [0] rfl) h
                  · replace h := it_t h hc
                    refine lv_aload_n hx hb d_M_run_164 rfl (lv_at hl 0 rfl) ?_
                    refine Mg_0_37 hx hb hB hown (hB _ m_898) hK hP d_M_run_165 ?_
                    refine lv_if_eq (tgt := 183) hx hb d_M_run_168 (by decide) (fun hc => ?_) (fun hc => ?_)
                    · replace h := it_t h hc
                      exact L183 σ H locs ls hP hD hS (lv_sub hl [0] rfl) h
                    · replace h := it_f h hc
                      refine lv_aload_n hx hb d_M_run_171 rfl (lv_at hl 0 rfl) ?_
                      obtain ⟨r45, s46, hr45, h⟩ := bd_some h
                      refine go_VI (rest := [.ref (a 0)]) ⟨hx, hb, hml, hown, hB⟩ nwM_ok (c_M_areAllBound l D ca g a tl N σ s46 r45 hr45) (cwx_V hB m_1134 kw_M_areAllBound ⟨by rw [hR]; decide, by rw [hR]; decide⟩ rfl rfl) (va_recv hK hP (ci := 1) (q0 := 0) rfl rfl) hN hK hP hD hS hA rfl hl.1 rfl (Nat.le_of_ble_eq_true rfl) d_M_run_172 ⟨by rw [hR]; exact Nat.le_of_ble_eq_true rfl, by rw [hR]; exact Nat.le_of_ble_eq_true rfl⟩ (fun H locs hP hD hS => ?_)
                      refine lv_if_ne (tgt := 183) hx hb d_M_run_175 (by decide) (fun hc => ?_) (fun hc => ?_)
                      · replace h := it_f h hc
                        exact L183 s46 H locs ls hP hD hS (lv_sub hl [0] rfl) h
                      · replace h := it_t h hc
                        refine lv_bipush (v := (-13 : Int32)) hx hb d_M_run_178 (by decide) ?_
                        refine lv_goto (tgt := 187) hx hb d_M_run_180 (by decide) ?_
                        exact L187 s46 (-13 : Int32) H locs ls hP hD hS (lv_sub hl [0] rfl) h
                · replace h := it_f h hc
                  refine lv_aload_n hx hb d_M_run_120 rfl (lv_at hl 0 rfl) ?_
                  refine lv_aload_n hx hb d_M_run_121 rfl (lv_at hl 0 rfl) ?_
                  refine Mg_0_37 hx hb hB hown (hB _ m_898) hK hP d_M_run_122 ?_
                  refine lv_if_ne (tgt := 142) hx hb d_M_run_125 (by decide) (fun hc => ?_) (fun hc => ?_)
                  · replace h := it_f h hc
                    refine lv_iconst (v := (1 : Int32)) hx hb d_M_run_142 (by decide) ?_
                    refine lv_goto (tgt := 147) hx hb d_M_run_143 (by decide) ?_
                    obtain ⟨s47, es47, h⟩ := nm_some h
                    refine Mp_0_37 es47 hx hb hB hown (hB _ m_898) hK hP hD hS ⟨rfl, rfl⟩ d_M_run_147 (fun H locs hP hD hS => ?_)
                    refine lv_iinc (v := (x1 + 1)) (lv' := [(1, .int (x1 + 1)), (0, .ref (a 0))]) hx hb d_M_run_150 hl (k := 1) rfl rfl (by decide) rfl (fun ls hl => ?_)
                    refine lv_goto (tgt := 112) hx hb d_M_run_153 (by decide) ?_
                    exact ih112 s47 (x1 + 1) H locs ls hP hD hS (lv_sub hl [1, 0] rfl) h
                  · replace h := it_t h hc
                    refine lv_aload_n hx hb d_M_run_128 rfl (lv_at hl 0 rfl) ?_
                    refine Mg_0_12 hx hb hB hown (hB _ m_873) hK hP d_M_run_129 ?_
                    refine lv_aload_n hx hb d_M_run_132 rfl (lv_at hl 0 rfl) ?_
                    refine Mg_0_25 hx hb hB hown (hB _ m_886) hK hP d_M_run_133 ?_
                    refine lv_iload_n hx hb d_M_run_136 rfl (lv_at hl 1 rfl) ?_
                    obtain ⟨hi, h⟩ := ckb_some h
                    refine Ma_18 hx hb hK hP hi d_M_run_137 ?_
                    obtain ⟨hi, h⟩ := ckb_some h
                    refine Ma_11 hx hb hK hP hi d_M_run_138 ?_
                    refine lv_if_eq (tgt := 146) hx hb d_M_run_139 (by decide) (fun hc => ?_) (fun hc => ?_)
                    · replace h := it_t h hc
                      refine lv_iconst (v := (0 : Int32)) hx hb d_M_run_146 (by decide) ?_
                      obtain ⟨s48, es48, h⟩ := nm_some h
                      refine Mp_0_37 es48 hx hb hB hown (hB _ m_898) hK hP hD hS ⟨rfl, rfl⟩ d_M_run_147 (fun H locs hP hD hS => ?_)
                      refine lv_iinc (v := (x1 + 1)) (lv' := [(1, .int (x1 + 1)), (0, .ref (a 0))]) hx hb d_M_run_150 hl (k := 1) rfl rfl (by decide) rfl (fun ls hl => ?_)
                      refine lv_goto (tgt := 112) hx hb d_M_run_153 (by decide) ?_
                      exact ih112 s48 (x1 + 1) H locs ls hP hD hS (lv_sub hl [1, 0] rfl) h
                    · replace h := it_f h hc
                      refine lv_iconst (v := (1 : Int32)) hx hb d_M_run_142 (by decide) ?_
                      refine lv_goto (tgt := 147) hx hb d_M_run_143 (by decide) ?_
                      obtain ⟨s49, es49, h⟩ := nm_some h
                      refine Mp_0_37 es49 hx hb hB hown (hB _ m_898) hK hP hD hS ⟨rfl, rfl⟩ d_M_run_147 (fun H locs hP hD hS => ?_)
                      refine lv_iinc (v := (x1 + 1)) (lv' := [(1, .int (x1 + 1)), (0, .ref (a 0))]) hx hb d_M_run_150 hl (k := 1) rfl rfl (by decide) rfl (fun ls hl => ?_)
                      refine lv_goto (tgt := 112) hx hb d_M_run_153 (by decide) ?_
                      exact ih112 s49 (x1 + 1) H locs ls hP hD hS (lv_sub hl [1, 0] rfl) h
          refine lv_istore_n (lv' := [(1, .int (0 : Int32)), (0, .ref (a 0))]) hx hb d_M_run_111 rfl hl (by decide) rfl (fun ls hl => ?_)
          exact L112 N s6 (0 : Int32) H locs ls hP hD hS (lv_sub hl [1, 0] rfl) h
        · replace h := it_f h hc
          refine lv_aload_n hx hb d_M_run_95 rfl (lv_at hl 0 rfl) ?_
          refine Mg_0_21 hx hb hB hown (hB _ m_882) hK hP d_M_run_96 ?_
          refine lv_if_lt (tgt := 106) hx hb d_M_run_99 (by decide) (fun hc => ?_) (fun hc => ?_)
          · replace h := it_t h hc
            refine lv_iconst (v := (0 : Int32)) hx hb d_M_run_106 (by decide) ?_
            obtain ⟨s50, es50, h⟩ := nm_some h
            refine Mp_0_37 es50 hx hb hB hown (hB _ m_898) hK hP hD hS ⟨rfl, rfl⟩ d_M_run_107 (fun H locs hP hD hS => ?_)
            refine lv_iconst (v := (0 : Int32)) hx hb d_M_run_110 (by decide) ?_
            have L112 : ∀ (n : Nat) (σ : St) (x1 : Int32) (H : Heap) (locs : List Loc) (ls : Array Slot), va_P D vCl (wM g ca a σ ++ tl) H → va_D A (wM g ca a σ ++ tl) → va_S A s.heap H locs → lv_has ls 2 [(0, .ref (a 0)), (1, .int x1)] → f_M_run_112 N n σ x1 = some (r, σ') → W p l e R s m args below meth c H locs 0 0 (MQ below (qb_QI D vCl (tyM ca) (wM g ca a σ' ++ tl) A r) args s 0 0 A) (F0 m 112 ls []) := by
              intro n
              induction n with
              | zero => intro σ x1 H locs ls hP hD hS hl h; cases h
              | succ n ih112 =>
                  intro σ x1 H locs ls hP hD hS hl h
                  obtain ⟨K112, eK112⟩ : ∃ K, K = f_M_run_112 N n := ⟨_, rfl⟩
                  rw [← eK112] at ih112
                  replace h : f_M_run_112_b N K112 σ x1 = some (r, σ') := by rw [eK112]; exact h
                  unfold f_M_run_112_b at h
                  refine lv_iload_n hx hb d_M_run_112 rfl (lv_at hl 1 rfl) ?_
                  refine lv_aload_n hx hb d_M_run_113 rfl (lv_at hl 0 rfl) ?_
                  refine Mg_0_24 hx hb hB hown (hB _ m_885) hK hP d_M_run_114 ?_
                  refine lv_icmp_ge (tgt := 156) hx hb d_M_run_117 (by decide) (fun hc => ?_) (fun hc => ?_)
                  · replace h := it_t h hc
                    refine lv_aload_n hx hb d_M_run_156 rfl (lv_at hl 0 rfl) ?_
                    refine lv_aload_n hx hb d_M_run_157 rfl (lv_at hl 0 rfl) ?_
                    refine Mg_0_36 hx hb hB hown (hB _ m_897) hK hP d_M_run_158 ?_
                    have L187 : ∀ (σ : St) (t0 : Int32) (H : Heap) (locs : List Loc) (ls : Array Slot), va_P D vCl (wM g ca a σ ++ tl) H → va_D A (wM g ca a σ ++ tl) → va_S A s.heap H locs → lv_has ls 2 [(0, .ref (a 0))] → f_M_run_187 N σ t0 = some (r, σ') → W p l e R s m args below meth c H locs 0 0 (MQ below (qb_QI D vCl (tyM ca) (wM g ca a σ' ++ tl) A r) args s 0 0 A) (F0 m 187 ls [.int t0, .ref (a 0)]) := by
                      intro σ t0 H locs ls hP hD hS hl h
                      unfold f_M_run_187 at h
                      obtain ⟨s51, es51, h⟩ := nm_some h
                      refine Mp_0_36 es51 hx hb hB hown (hB _ m_897) hK hP hD hS d_M_run_187 (fun H locs hP hD hS => ?_)
                      refine lv_aload_n hx hb d_M_run_190 rfl (lv_at hl 0 rfl) ?_
                      refine Mg_0_36 hx hb hB hown (hB _ m_897) hK hP d_M_run_191 ?_
                      refine lv_if_eq (tgt := 202) hx hb d_M_run_194 (by decide) (fun hc => ?_) (fun hc => ?_)
                      · replace h := it_t h hc
                        refine lv_iconst (v := (0 : Int32)) hx hb d_M_run_202 (by decide) ?_
                        have L204 : ∀ (n : Nat) (σ : St) (x1 : Int32) (H : Heap) (locs : List Loc) (ls : Array Slot), va_P D vCl (wM g ca a σ ++ tl) H → va_D A (wM g ca a σ ++ tl) → va_S A s.heap H locs → lv_has ls 2 [(0, .ref (a 0)), (1, .int x1)] → f_M_run_204 N n σ x1 = some (r, σ') → W p l e R s m args below meth c H locs 0 0 (MQ below (qb_QI D vCl (tyM ca) (wM g ca a σ' ++ tl) A r) args s 0 0 A) (F0 m 204 ls []) := by
                          intro n
                          induction n with
                          | zero => intro σ x1 H locs ls hP hD hS hl h; cases h
                          | succ n ih204 =>
                              intro σ x1 H locs ls hP hD hS hl h
                              obtain ⟨K204, eK204⟩ : ∃ K, K = f_M_run_204 N n := ⟨_, rfl⟩
                              rw [← eK204] at ih204
                              replace h : f_M_run_204_b N K204 σ x1 = some (r, σ') := by rw [eK204]; exact h
                              unfold f_M_run_204_b at h
                              refine lv_iload_n hx hb d_M_run_204 rfl (lv_at hl 1 rfl) ?_
                              refine lv_bipush (v := (8 : Int32)) hx hb d_M_run_205 (by decide) ?_
                              refine lv_icmp_ge (tgt := 223) hx hb d_M_run_207 (by decide) (fun hc => ?_) (fun hc => ?_)
                              · replace h := it_t h hc
                                refine lv_aload_n hx hb d_M_run_223 rfl (lv_at hl 0 rfl) ?_
                                refine Mg_0_21 hx hb hB hown (hB _ m_882) hK hP d_M_run_224 ?_
                                refine lv_if_lt (tgt := 238) hx hb d_M_run_227 (by decide) (fun hc => ?_) (fun hc => ?_)
                                · replace h := it_t h hc
                                  refine lv_iconst (v := (0 : Int32)) hx hb d_M_run_238 (by decide) ?_
                                  have L240 : ∀ (n : Nat) (σ : St) (x1 : Int32) (H : Heap) (locs : List Loc) (ls : Array Slot), va_P D vCl (wM g ca a σ ++ tl) H → va_D A (wM g ca a σ ++ tl) → va_S A s.heap H locs → lv_has ls 2 [(0, .ref (a 0)), (1, .int x1)] → f_M_run_240 N n σ x1 = some (r, σ') → W p l e R s m args below meth c H locs 0 0 (MQ below (qb_QI D vCl (tyM ca) (wM g ca a σ' ++ tl) A r) args s 0 0 A) (F0 m 240 ls []) := by
                                    intro n
                                    induction n with
                                    | zero => intro σ x1 H locs ls hP hD hS hl h; cases h
                                    | succ n ih240 =>
                                        intro σ x1 H locs ls hP hD hS hl h
                                        obtain ⟨K240, eK240⟩ : ∃ K, K = f_M_run_240 N n := ⟨_, rfl⟩
                                        rw [← eK240] at ih240
                                        replace h : f_M_run_240_b N K240 σ x1 = some (r, σ') := by rw [eK240]; exact h
                                        unfold f_M_run_240_b at h
                                        refine lv_iload_n hx hb d_M_run_240 rfl (lv_at hl 1 rfl) ?_
                                        refine lv_aload_n hx hb d_M_run_241 rfl (lv_at hl 0 rfl) ?_
                                        refine Mg_0_24 hx hb hB hown (hB _ m_885) hK hP d_M_run_242 ?_
                                        refine lv_icmp_ge (tgt := 264) hx hb d_M_run_245 (by decide) (fun hc => ?_) (fun hc => ?_)
                                        · replace h := it_t h hc
                                          refine lv_aload_n hx hb d_M_run_264 rfl (lv_at hl 0 rfl) ?_
                                          refine lv_iconst (v := (0 : Int32)) hx hb d_M_run_265 (by decide) ?_
                                          obtain ⟨s52, es52, h⟩ := nm_some h
                                          refine Mp_0_39 es52 hx hb hB hown (hB _ m_900) hK hP hD hS d_M_run_266 (fun H locs hP hD hS => ?_)
                                          refine lv_aload_n hx hb d_M_run_269 rfl (lv_at hl 0 rfl) ?_
                                          refine lv_iconst (v := (0 : Int32)) hx hb d_M_run_270 (by decide) ?_
                                          obtain ⟨s53, es53, h⟩ := nm_some h
                                          refine Mp_0_43 es53 hx hb hB hown (hB _ m_904) hK hP hD hS d_M_run_271 (fun H locs hP hD hS => ?_)
                                          refine lv_aload_n hx hb d_M_run_274 rfl (lv_at hl 0 rfl) ?_
                                          refine lv_iconst (v := (-1 : Int32)) hx hb d_M_run_275 (by decide) ?_
                                          obtain ⟨s54, es54, h⟩ := nm_some h
                                          refine Mp_0_48 es54 hx hb hB hown (hB _ m_909) hK hP hD hS d_M_run_276 (fun H locs hP hD hS => ?_)
                                          refine lv_aload_n hx hb d_M_run_279 rfl (lv_at hl 0 rfl) ?_
                                          obtain ⟨r55, s56, hr55, h⟩ := bd_some h
                                          cases r55
                                          refine go_VV (rest := []) ⟨hx, hb, hml, hown, hB⟩ nwM_ok (c_M_goFirst l D ca g a tl N s54 s56 hr55) (cwx_V hB m_1150 kw_M_goFirst ⟨by rw [hR]; decide, by rw [hR]; decide⟩ rfl rfl) (va_recv hK hP (ci := 1) (q0 := 0) rfl rfl) hN hK hP hD hS hA rfl hl.1 rfl (Nat.le_of_ble_eq_true rfl) d_M_run_280 ⟨by rw [hR]; exact Nat.le_of_ble_eq_true rfl, by rw [hR]; exact Nat.le_of_ble_eq_true rfl⟩ (fun H locs hP hD hS => ?_)
                                          refine lv_aload_n hx hb d_M_run_283 rfl (lv_at hl 0 rfl) ?_
                                          refine Mg_0_37 hx hb hB hown (hB _ m_898) hK hP d_M_run_284 ?_
                                          have L301 : ∀ (σ : St) (H : Heap) (locs : List Loc) (ls : Array Slot), va_P D vCl (wM g ca a σ ++ tl) H → va_D A (wM g ca a σ ++ tl) → va_S A s.heap H locs → lv_has ls 2 [(0, .ref (a 0))] → f_M_run_301 N σ = some (r, σ') → W p l e R s m args below meth c H locs 0 0 (MQ below (qb_QI D vCl (tyM ca) (wM g ca a σ' ++ tl) A r) args s 0 0 A) (F0 m 301 ls []) := by
                                            intro σ H locs ls hP hD hS hl h
                                            unfold f_M_run_301 at h
                                            refine lv_aload_n hx hb d_M_run_301 rfl (lv_at hl 0 rfl) ?_
                                            refine Mg_0_36 hx hb hB hown (hB _ m_897) hK hP d_M_run_302 ?_
                                            refine lv_if_eq (tgt := 318) hx hb d_M_run_305 (by decide) (fun hc => ?_) (fun hc => ?_)
                                            · replace h := it_t h hc
                                              refine lv_aload_n hx hb d_M_run_318 rfl (lv_at hl 0 rfl) ?_
                                              refine Mg_0_29 hx hb hB hown (hB _ m_890) hK hP d_M_run_319 ?_
                                              have L329 : ∀ (σ : St) (H : Heap) (locs : List Loc) (ls : Array Slot), va_P D vCl (wM g ca a σ ++ tl) H → va_D A (wM g ca a σ ++ tl) → va_S A s.heap H locs → lv_has ls 2 [(0, .ref (a 0))] → f_M_run_329 N σ = some (r, σ') → W p l e R s m args below meth c H locs 0 0 (MQ below (qb_QI D vCl (tyM ca) (wM g ca a σ' ++ tl) A r) args s 0 0 A) (F0 m 329 ls []) := by
                                                intro σ H locs ls hP hD hS hl h
                                                unfold f_M_run_329 at h
                                                refine lv_aload_n hx hb d_M_run_329 rfl (lv_at hl 0 rfl) ?_
                                                obtain ⟨r57, s58, hr57, h⟩ := bd_some h
                                                cases r57
                                                refine go_VV (rest := []) ⟨hx, hb, hml, hown, hB⟩ nwM_ok (c_M_sort l D ca g a tl N σ s58 hr57) (cwx_V hB m_1245 kw_M_sort ⟨by rw [hR]; decide, by rw [hR]; decide⟩ rfl rfl) (va_recv hK hP (ci := 1) (q0 := 0) rfl rfl) hN hK hP hD hS hA rfl hl.1 rfl (Nat.le_of_ble_eq_true rfl) d_M_run_330 ⟨by rw [hR]; exact Nat.le_of_ble_eq_true rfl, by rw [hR]; exact Nat.le_of_ble_eq_true rfl⟩ (fun H locs hP hD hS => ?_)
                                                refine lv_aload_n hx hb d_M_run_333 rfl (lv_at hl 0 rfl) ?_
                                                obtain ⟨r59, s60, hr59, h⟩ := bd_some h
                                                cases r59
                                                refine go_VV (rest := []) ⟨hx, hb, hml, hown, hB⟩ nwM_ok (c_M_cut l D ca g a tl N s58 s60 hr59) (cwx_V hB m_1253 kw_M_cut ⟨by rw [hR]; decide, by rw [hR]; decide⟩ rfl rfl) (va_recv hK hP (ci := 1) (q0 := 0) rfl rfl) hN hK hP hD hS hA rfl hl.1 rfl (Nat.le_of_ble_eq_true rfl) d_M_run_334 ⟨by rw [hR]; exact Nat.le_of_ble_eq_true rfl, by rw [hR]; exact Nat.le_of_ble_eq_true rfl⟩ (fun H locs hP hD hS => ?_)
                                                refine lv_aload_n hx hb d_M_run_337 rfl (lv_at hl 0 rfl) ?_
                                                refine lv_aload_n hx hb d_M_run_338 rfl (lv_at hl 0 rfl) ?_
                                                refine Mg_0_24 hx hb hB hown (hB _ m_885) hK hP d_M_run_339 ?_
                                                obtain ⟨s61, es61, h⟩ := nm_some h
                                                refine Mp_0_33 es61 hx hb hB hown (hB _ m_894) hK hP hD hS d_M_run_342 (fun H locs hP hD hS => ?_)
                                                refine lv_aload_n hx hb d_M_run_345 rfl (lv_at hl 0 rfl) ?_
                                                refine Mg_0_32 hx hb hB hown (hB _ m_893) hK hP d_M_run_346 ?_
                                                exact rf_I (w := (fun z => wM g ca a z ++ tl)) h hx hb hr hlk hK hP hD hS d_M_run_349
                                              refine lv_if_eq (tgt := 329) hx hb d_M_run_322 (by decide) (fun hc => ?_) (fun hc => ?_)
                                              · replace h := it_t h hc
                                                exact L329 σ H locs ls hP hD hS (lv_sub hl [0] rfl) h
                                              · replace h := it_f h hc
                                                refine lv_aload_n hx hb d_M_run_325 rfl (lv_at hl 0 rfl) ?_
                                                obtain ⟨r62, s63, hr62, h⟩ := bd_some h
                                                cases r62
                                                refine go_VV (rest := []) ⟨hx, hb, hml, hown, hB⟩ nwM_ok (c_M_leaveOut l D ca g a tl N σ s63 hr62) (cwx_V hB m_1233 kw_M_leaveOut ⟨by rw [hR]; decide, by rw [hR]; decide⟩ rfl rfl) (va_recv hK hP (ci := 1) (q0 := 0) rfl rfl) hN hK hP hD hS hA rfl hl.1 rfl (Nat.le_of_ble_eq_true rfl) d_M_run_326 ⟨by rw [hR]; exact Nat.le_of_ble_eq_true rfl, by rw [hR]; exact Nat.le_of_ble_eq_true rfl⟩ (fun H locs hP hD hS => ?_)
                                                exact L329 s63 H locs ls hP hD hS (lv_sub hl [0] rfl) h
                                            · replace h := it_f h hc
                                              refine lv_aload_n hx hb d_M_run_308 rfl (lv_at hl 0 rfl) ?_
                                              refine lv_iconst (v := (0 : Int32)) hx hb d_M_run_309 (by decide) ?_
                                              obtain ⟨s64, es64, h⟩ := nm_some h
                                              refine Mp_0_32 es64 hx hb hB hown (hB _ m_893) hK hP hD hS d_M_run_310 (fun H locs hP hD hS => ?_)
                                              refine lv_aload_n hx hb d_M_run_313 rfl (lv_at hl 0 rfl) ?_
                                              refine Mg_0_36 hx hb hB hown (hB _ m_897) hK hP d_M_run_314 ?_
                                              exact rf_I (w := (fun z => wM g ca a z ++ tl)) h hx hb hr hlk hK hP hD hS d_M_run_317
                                          refine lv_if_eq (tgt := 301) hx hb d_M_run_287 (by decide) (fun hc => ?_) (fun hc => ?_)
                                          · replace h := it_t h hc
                                            exact L301 s56 H locs ls hP hD hS (lv_sub hl [0] rfl) h
                                          · replace h := it_f h hc
                                            refine lv_aload_n hx hb d_M_run_290 rfl (lv_at hl 0 rfl) ?_
                                            refine Mg_0_36 hx hb hB hown (hB _ m_897) hK hP d_M_run_291 ?_
                                            refine lv_if_ne (tgt := 301) hx hb d_M_run_294 (by decide) (fun hc => ?_) (fun hc => ?_)
                                            · replace h := it_f h hc
                                              exact L301 s56 H locs ls hP hD hS (lv_sub hl [0] rfl) h
                                            · replace h := it_t h hc
                                              refine lv_aload_n hx hb d_M_run_297 rfl (lv_at hl 0 rfl) ?_
                                              obtain ⟨r65, s66, hr65, h⟩ := bd_some h
                                              cases r65
                                              refine go_VV (rest := []) ⟨hx, hb, hml, hown, hB⟩ nwM_ok (c_M_goThroughGroups l D ca g a tl N s56 s66 hr65) (cwx_V hB m_1229 kw_M_goThroughGroups ⟨by rw [hR]; decide, by rw [hR]; decide⟩ rfl rfl) (va_recv hK hP (ci := 1) (q0 := 0) rfl rfl) hN hK hP hD hS hA rfl hl.1 rfl (Nat.le_of_ble_eq_true rfl) d_M_run_298 ⟨by rw [hR]; exact Nat.le_of_ble_eq_true rfl, by rw [hR]; exact Nat.le_of_ble_eq_true rfl⟩ (fun H locs hP hD hS => ?_)
                                              exact L301 s66 H locs ls hP hD hS (lv_sub hl [0] rfl) h
                                        · replace h := it_f h hc
                                          refine lv_aload_n hx hb d_M_run_248 rfl (lv_at hl 0 rfl) ?_
                                          refine lv_aload_n hx hb d_M_run_249 rfl (lv_at hl 0 rfl) ?_
                                          refine Mg_0_25 hx hb hB hown (hB _ m_886) hK hP d_M_run_250 ?_
                                          refine lv_iload_n hx hb d_M_run_253 rfl (lv_at hl 1 rfl) ?_
                                          obtain ⟨hi, h⟩ := ckb_some h
                                          refine Ma_18 hx hb hK hP hi d_M_run_254 ?_
                                          obtain ⟨r67, s68, hr67, h⟩ := bd_some h
                                          cases r67
                                          refine go_VV (rest := []) ⟨hx, hb, hml, hown, hB⟩ nwM_ok (c_M_ask l D ca g a tl N σ s68 (ga σ 15 (x1).toNatClampNeg) hr67) (cwx_V hB m_1146 kw_M_ask ⟨by rw [hR]; decide, by rw [hR]; decide⟩ rfl rfl) (va_recv hK hP (ci := 1) (q0 := 0) rfl rfl) hN hK hP hD hS hA rfl hl.1 rfl (Nat.le_of_ble_eq_true rfl) d_M_run_255 ⟨by rw [hR]; exact Nat.le_of_ble_eq_true rfl, by rw [hR]; exact Nat.le_of_ble_eq_true rfl⟩ (fun H locs hP hD hS => ?_)
                                          refine lv_iinc (v := (x1 + 1)) (lv' := [(1, .int (x1 + 1)), (0, .ref (a 0))]) hx hb d_M_run_258 hl (k := 1) rfl rfl (by decide) rfl (fun ls hl => ?_)
                                          refine lv_goto (tgt := 240) hx hb d_M_run_261 (by decide) ?_
                                          exact ih240 s68 (x1 + 1) H locs ls hP hD hS (lv_sub hl [1, 0] rfl) h
                                  refine lv_istore_n (lv' := [(1, .int (0 : Int32)), (0, .ref (a 0))]) hx hb d_M_run_239 rfl hl (by decide) rfl (fun ls hl => ?_)
                                  exact L240 N σ (0 : Int32) H locs ls hP hD hS (lv_sub hl [1, 0] rfl) h
                                · replace h := it_f h hc
                                  refine lv_aload_n hx hb d_M_run_230 rfl (lv_at hl 0 rfl) ?_
                                  refine lv_aload_n hx hb d_M_run_231 rfl (lv_at hl 0 rfl) ?_
                                  refine Mg_0_21 hx hb hB hown (hB _ m_882) hK hP d_M_run_232 ?_
                                  obtain ⟨r69, s70, hr69, h⟩ := bd_some h
                                  cases r69
                                  refine go_VV (rest := []) ⟨hx, hb, hml, hown, hB⟩ nwM_ok (c_M_ask l D ca g a tl N σ s70 (gi σ 5) hr69) (cwx_V hB m_1146 kw_M_ask ⟨by rw [hR]; decide, by rw [hR]; decide⟩ rfl rfl) (va_recv hK hP (ci := 1) (q0 := 0) rfl rfl) hN hK hP hD hS hA rfl hl.1 rfl (Nat.le_of_ble_eq_true rfl) d_M_run_235 ⟨by rw [hR]; exact Nat.le_of_ble_eq_true rfl, by rw [hR]; exact Nat.le_of_ble_eq_true rfl⟩ (fun H locs hP hD hS => ?_)
                                  refine lv_iconst (v := (0 : Int32)) hx hb d_M_run_238 (by decide) ?_
                                  have L240 : ∀ (n : Nat) (σ : St) (x1 : Int32) (H : Heap) (locs : List Loc) (ls : Array Slot), va_P D vCl (wM g ca a σ ++ tl) H → va_D A (wM g ca a σ ++ tl) → va_S A s.heap H locs → lv_has ls 2 [(0, .ref (a 0)), (1, .int x1)] → f_M_run_240 N n σ x1 = some (r, σ') → W p l e R s m args below meth c H locs 0 0 (MQ below (qb_QI D vCl (tyM ca) (wM g ca a σ' ++ tl) A r) args s 0 0 A) (F0 m 240 ls []) := by
                                    intro n
                                    induction n with
                                    | zero => intro σ x1 H locs ls hP hD hS hl h; cases h
                                    | succ n ih240 =>
                                        intro σ x1 H locs ls hP hD hS hl h
                                        obtain ⟨K240, eK240⟩ : ∃ K, K = f_M_run_240 N n := ⟨_, rfl⟩
                                        rw [← eK240] at ih240
                                        replace h : f_M_run_240_b N K240 σ x1 = some (r, σ') := by rw [eK240]; exact h
                                        unfold f_M_run_240_b at h
                                        refine lv_iload_n hx hb d_M_run_240 rfl (lv_at hl 1 rfl) ?_
                                        refine lv_aload_n hx hb d_M_run_241 rfl (lv_at hl 0 rfl) ?_
                                        refine Mg_0_24 hx hb hB hown (hB _ m_885) hK hP d_M_run_242 ?_
                                        refine lv_icmp_ge (tgt := 264) hx hb d_M_run_245 (by decide) (fun hc => ?_) (fun hc => ?_)
                                        · replace h := it_t h hc
                                          refine lv_aload_n hx hb d_M_run_264 rfl (lv_at hl 0 rfl) ?_
                                          refine lv_iconst (v := (0 : Int32)) hx hb d_M_run_265 (by decide) ?_
                                          obtain ⟨s71, es71, h⟩ := nm_some h
                                          refine Mp_0_39 es71 hx hb hB hown (hB _ m_900) hK hP hD hS d_M_run_266 (fun H locs hP hD hS => ?_)
                                          refine lv_aload_n hx hb d_M_run_269 rfl (lv_at hl 0 rfl) ?_
                                          refine lv_iconst (v := (0 : Int32)) hx hb d_M_run_270 (by decide) ?_
                                          obtain ⟨s72, es72, h⟩ := nm_some h
                                          refine Mp_0_43 es72 hx hb hB hown (hB _ m_904) hK hP hD hS d_M_run_271 (fun H locs hP hD hS => ?_)
                                          refine lv_aload_n hx hb d_M_run_274 rfl (lv_at hl 0 rfl) ?_
                                          refine lv_iconst (v := (-1 : Int32)) hx hb d_M_run_275 (by decide) ?_
                                          obtain ⟨s73, es73, h⟩ := nm_some h
                                          refine Mp_0_48 es73 hx hb hB hown (hB _ m_909) hK hP hD hS d_M_run_276 (fun H locs hP hD hS => ?_)
                                          refine lv_aload_n hx hb d_M_run_279 rfl (lv_at hl 0 rfl) ?_
                                          obtain ⟨r74, s75, hr74, h⟩ := bd_some h
                                          cases r74
                                          refine go_VV (rest := []) ⟨hx, hb, hml, hown, hB⟩ nwM_ok (c_M_goFirst l D ca g a tl N s73 s75 hr74) (cwx_V hB m_1150 kw_M_goFirst ⟨by rw [hR]; decide, by rw [hR]; decide⟩ rfl rfl) (va_recv hK hP (ci := 1) (q0 := 0) rfl rfl) hN hK hP hD hS hA rfl hl.1 rfl (Nat.le_of_ble_eq_true rfl) d_M_run_280 ⟨by rw [hR]; exact Nat.le_of_ble_eq_true rfl, by rw [hR]; exact Nat.le_of_ble_eq_true rfl⟩ (fun H locs hP hD hS => ?_)
                                          refine lv_aload_n hx hb d_M_run_283 rfl (lv_at hl 0 rfl) ?_
                                          refine Mg_0_37 hx hb hB hown (hB _ m_898) hK hP d_M_run_284 ?_
                                          have L301 : ∀ (σ : St) (H : Heap) (locs : List Loc) (ls : Array Slot), va_P D vCl (wM g ca a σ ++ tl) H → va_D A (wM g ca a σ ++ tl) → va_S A s.heap H locs → lv_has ls 2 [(0, .ref (a 0))] → f_M_run_301 N σ = some (r, σ') → W p l e R s m args below meth c H locs 0 0 (MQ below (qb_QI D vCl (tyM ca) (wM g ca a σ' ++ tl) A r) args s 0 0 A) (F0 m 301 ls []) := by
                                            intro σ H locs ls hP hD hS hl h
                                            unfold f_M_run_301 at h
                                            refine lv_aload_n hx hb d_M_run_301 rfl (lv_at hl 0 rfl) ?_
                                            refine Mg_0_36 hx hb hB hown (hB _ m_897) hK hP d_M_run_302 ?_
                                            refine lv_if_eq (tgt := 318) hx hb d_M_run_305 (by decide) (fun hc => ?_) (fun hc => ?_)
                                            · replace h := it_t h hc
                                              refine lv_aload_n hx hb d_M_run_318 rfl (lv_at hl 0 rfl) ?_
                                              refine Mg_0_29 hx hb hB hown (hB _ m_890) hK hP d_M_run_319 ?_
                                              have L329 : ∀ (σ : St) (H : Heap) (locs : List Loc) (ls : Array Slot), va_P D vCl (wM g ca a σ ++ tl) H → va_D A (wM g ca a σ ++ tl) → va_S A s.heap H locs → lv_has ls 2 [(0, .ref (a 0))] → f_M_run_329 N σ = some (r, σ') → W p l e R s m args below meth c H locs 0 0 (MQ below (qb_QI D vCl (tyM ca) (wM g ca a σ' ++ tl) A r) args s 0 0 A) (F0 m 329 ls []) := by
                                                intro σ H locs ls hP hD hS hl h
                                                unfold f_M_run_329 at h
                                                refine lv_aload_n hx hb d_M_run_329 rfl (lv_at hl 0 rfl) ?_
                                                obtain ⟨r76, s77, hr76, h⟩ := bd_some h
                                                cases r76
                                                refine go_VV (rest := []) ⟨hx, hb, hml, hown, hB⟩ nwM_ok (c_M_sort l D ca g a tl N σ s77 hr76) (cwx_V hB m_1245 kw_M_sort ⟨by rw [hR]; decide, by rw [hR]; decide⟩ rfl rfl) (va_recv hK hP (ci := 1) (q0 := 0) rfl rfl) hN hK hP hD hS hA rfl hl.1 rfl (Nat.le_of_ble_eq_true rfl) d_M_run_330 ⟨by rw [hR]; exact Nat.le_of_ble_eq_true rfl, by rw [hR]; exact Nat.le_of_ble_eq_true rfl⟩ (fun H locs hP hD hS => ?_)
                                                refine lv_aload_n hx hb d_M_run_333 rfl (lv_at hl 0 rfl) ?_
                                                obtain ⟨r78, s79, hr78, h⟩ := bd_some h
                                                cases r78
                                                refine go_VV (rest := []) ⟨hx, hb, hml, hown, hB⟩ nwM_ok (c_M_cut l D ca g a tl N s77 s79 hr78) (cwx_V hB m_1253 kw_M_cut ⟨by rw [hR]; decide, by rw [hR]; decide⟩ rfl rfl) (va_recv hK hP (ci := 1) (q0 := 0) rfl rfl) hN hK hP hD hS hA rfl hl.1 rfl (Nat.le_of_ble_eq_true rfl) d_M_run_334 ⟨by rw [hR]; exact Nat.le_of_ble_eq_true rfl, by rw [hR]; exact Nat.le_of_ble_eq_true rfl⟩ (fun H locs hP hD hS => ?_)
                                                refine lv_aload_n hx hb d_M_run_337 rfl (lv_at hl 0 rfl) ?_
                                                refine lv_aload_n hx hb d_M_run_338 rfl (lv_at hl 0 rfl) ?_
                                                refine Mg_0_24 hx hb hB hown (hB _ m_885) hK hP d_M_run_339 ?_
                                                obtain ⟨s80, es80, h⟩ := nm_some h
                                                refine Mp_0_33 es80 hx hb hB hown (hB _ m_894) hK hP hD hS d_M_run_342 (fun H locs hP hD hS => ?_)
                                                refine lv_aload_n hx hb d_M_run_345 rfl (lv_at hl 0 rfl) ?_
                                                refine Mg_0_32 hx hb hB hown (hB _ m_893) hK hP d_M_run_346 ?_
                                                exact rf_I (w := (fun z => wM g ca a z ++ tl)) h hx hb hr hlk hK hP hD hS d_M_run_349
                                              refine lv_if_eq (tgt := 329) hx hb d_M_run_322 (by decide) (fun hc => ?_) (fun hc => ?_)
                                              · replace h := it_t h hc
                                                exact L329 σ H locs ls hP hD hS (lv_sub hl [0] rfl) h
                                              · replace h := it_f h hc
                                                refine lv_aload_n hx hb d_M_run_325 rfl (lv_at hl 0 rfl) ?_
                                                obtain ⟨r81, s82, hr81, h⟩ := bd_some h
                                                cases r81
                                                refine go_VV (rest := []) ⟨hx, hb, hml, hown, hB⟩ nwM_ok (c_M_leaveOut l D ca g a tl N σ s82 hr81) (cwx_V hB m_1233 kw_M_leaveOut ⟨by rw [hR]; decide, by rw [hR]; decide⟩ rfl rfl) (va_recv hK hP (ci := 1) (q0 := 0) rfl rfl) hN hK hP hD hS hA rfl hl.1 rfl (Nat.le_of_ble_eq_true rfl) d_M_run_326 ⟨by rw [hR]; exact Nat.le_of_ble_eq_true rfl, by rw [hR]; exact Nat.le_of_ble_eq_true rfl⟩ (fun H locs hP hD hS => ?_)
                                                exact L329 s82 H locs ls hP hD hS (lv_sub hl [0] rfl) h
                                            · replace h := it_f h hc
                                              refine lv_aload_n hx hb d_M_run_308 rfl (lv_at hl 0 rfl) ?_
                                              refine lv_iconst (v := (0 : Int32)) hx hb d_M_run_309 (by decide) ?_
                                              obtain ⟨s83, es83, h⟩ := nm_some h
                                              refine Mp_0_32 es83 hx hb hB hown (hB _ m_893) hK hP hD hS d_M_run_310 (fun H locs hP hD hS => ?_)
                                              refine lv_aload_n hx hb d_M_run_313 rfl (lv_at hl 0 rfl) ?_
                                              refine Mg_0_36 hx hb hB hown (hB _ m_897) hK hP d_M_run_314 ?_
                                              exact rf_I (w := (fun z => wM g ca a z ++ tl)) h hx hb hr hlk hK hP hD hS d_M_run_317
                                          refine lv_if_eq (tgt := 301) hx hb d_M_run_287 (by decide) (fun hc => ?_) (fun hc => ?_)
                                          · replace h := it_t h hc
                                            exact L301 s75 H locs ls hP hD hS (lv_sub hl [0] rfl) h
                                          · replace h := it_f h hc
                                            refine lv_aload_n hx hb d_M_run_290 rfl (lv_at hl 0 rfl) ?_
                                            refine Mg_0_36 hx hb hB hown (hB _ m_897) hK hP d_M_run_291 ?_
                                            refine lv_if_ne (tgt := 301) hx hb d_M_run_294 (by decide) (fun hc => ?_) (fun hc => ?_)
                                            · replace h := it_f h hc
                                              exact L301 s75 H locs ls hP hD hS (lv_sub hl [0] rfl) h
                                            · replace h := it_t h hc
                                              refine lv_aload_n hx hb d_M_run_297 rfl (lv_at hl 0 rfl) ?_
                                              obtain ⟨r84, s85, hr84, h⟩ := bd_some h
                                              cases r84
                                              refine go_VV (rest := []) ⟨hx, hb, hml, hown, hB⟩ nwM_ok (c_M_goThroughGroups l D ca g a tl N s75 s85 hr84) (cwx_V hB m_1229 kw_M_goThroughGroups ⟨by rw [hR]; decide, by rw [hR]; decide⟩ rfl rfl) (va_recv hK hP (ci := 1) (q0 := 0) rfl rfl) hN hK hP hD hS hA rfl hl.1 rfl (Nat.le_of_ble_eq_true rfl) d_M_run_298 ⟨by rw [hR]; exact Nat.le_of_ble_eq_true rfl, by rw [hR]; exact Nat.le_of_ble_eq_true rfl⟩ (fun H locs hP hD hS => ?_)
                                              exact L301 s85 H locs ls hP hD hS (lv_sub hl [0] rfl) h
                                        · replace h := it_f h hc
                                          refine lv_aload_n hx hb d_M_run_248 rfl (lv_at hl 0 rfl) ?_
                                          refine lv_aload_n hx hb d_M_run_249 rfl (lv_at hl 0 rfl) ?_
                                          refine Mg_0_25 hx hb hB hown (hB _ m_886) hK hP d_M_run_250 ?_
                                          refine lv_iload_n hx hb d_M_run_253 rfl (lv_at hl 1 rfl) ?_
                                          obtain ⟨hi, h⟩ := ckb_some h
                                          refine Ma_18 hx hb hK hP hi d_M_run_254 ?_
                                          obtain ⟨r86, s87, hr86, h⟩ := bd_some h
                                          cases r86
                                          refine go_VV (rest := []) ⟨hx, hb, hml, hown, hB⟩ nwM_ok (c_M_ask l D ca g a tl N σ s87 (ga σ 15 (x1).toNatClampNeg) hr86) (cwx_V hB m_1146 kw_M_ask ⟨by rw [hR]; decide, by rw [hR]; decide⟩ rfl rfl) (va_recv hK hP (ci := 1) (q0 := 0) rfl rfl) hN hK hP hD hS hA rfl hl.1 rfl (Nat.le_of_ble_eq_true rfl) d_M_run_255 ⟨by rw [hR]; exact Nat.le_of_ble_eq_true rfl, by rw [hR]; exact Nat.le_of_ble_eq_true rfl⟩ (fun H locs hP hD hS => ?_)
                                          refine lv_iinc (v := (x1 + 1)) (lv' := [(1, .int (x1 + 1)), (0, .ref (a 0))]) hx hb d_M_run_258 hl (k := 1) rfl rfl (by decide) rfl (fun ls hl => ?_)
                                          refine lv_goto (tgt := 240) hx hb d_M_run_261 (by decide) ?_
                                          exact ih240 s87 (x1 + 1) H locs ls hP hD hS (lv_sub hl [1, 0] rfl) h
                                  refine lv_istore_n (lv' := [(1, .int (0 : Int32)), (0, .ref (a 0))]) hx hb d_M_run_239 rfl hl (by decide) rfl (fun ls hl => ?_)
                                  exact L240 N s70 (0 : Int32) H locs ls hP hD hS (lv_sub hl [1, 0] rfl) h
                              · replace h := it_f h hc
                                refine lv_aload_n hx hb d_M_run_210 rfl (lv_at hl 0 rfl) ?_
                                refine Mg_0_47 hx hb hB hown (hB _ m_908) hK hP d_M_run_211 ?_
                                refine lv_iload_n hx hb d_M_run_214 rfl (lv_at hl 1 rfl) ?_
                                refine lv_iconst (v := (0 : Int32)) hx hb d_M_run_215 (by decide) ?_
                                obtain ⟨hi, h⟩ := ckb_some h
                                obtain ⟨s88, es88, h⟩ := nm_some h
                                refine Ms_30 es88 hx hb hK hP hD hS hi d_M_run_216 (fun H locs hP hD hS => ?_)
                                refine lv_iinc (v := (x1 + 1)) (lv' := [(1, .int (x1 + 1)), (0, .ref (a 0))]) hx hb d_M_run_217 hl (k := 1) rfl rfl (by decide) rfl (fun ls hl => ?_)
                                refine lv_goto (tgt := 204) hx hb d_M_run_220 (by decide) ?_
                                exact ih204 s88 (x1 + 1) H locs ls hP hD hS (lv_sub hl [1, 0] rfl) h
                        refine lv_istore_n (lv' := [(1, .int (0 : Int32)), (0, .ref (a 0))]) hx hb d_M_run_203 rfl hl (by decide) rfl (fun ls hl => ?_)
                        exact L204 N s51 (0 : Int32) H locs ls hP hD hS (lv_sub hl [1, 0] rfl) h
                      · replace h := it_f h hc
                        refine lv_aload_n hx hb d_M_run_197 rfl (lv_at hl 0 rfl) ?_
                        refine Mg_0_36 hx hb hB hown (hB _ m_897) hK hP d_M_run_198 ?_
                        exact rf_I (w := (fun z => wM g ca a z ++ tl)) h hx hb hr hlk hK hP hD hS d_M_run_201
                    have L183 : ∀ (σ : St) (H : Heap) (locs : List Loc) (ls : Array Slot), va_P D vCl (wM g ca a σ ++ tl) H → va_D A (wM g ca a σ ++ tl) → va_S A s.heap H locs → lv_has ls 2 [(0, .ref (a 0))] → f_M_run_183 N σ = some (r, σ') → W p l e R s m args below meth c H locs 0 0 (MQ below (qb_QI D vCl (tyM ca) (wM g ca a σ' ++ tl) A r) args s 0 0 A) (F0 m 183 ls [.ref (a 0)]) := by
                      intro σ H locs ls hP hD hS hl h
                      unfold f_M_run_183 at h
                      refine lv_aload_n hx hb d_M_run_183 rfl (lv_at hl 0 rfl) ?_
                      refine Mg_0_36 hx hb hB hown (hB _ m_897) hK hP d_M_run_184 ?_
                      exact L187 σ (gi σ 14) H locs ls hP hD hS (lv_sub hl [0] rfl) h
                    refine lv_if_ne (tgt := 183) hx hb d_M_run_161 (by decide) (fun hc => ?_) (fun hc => ?_)
                    · replace h := it_f h hc
                      exact L183 σ H locs ls hP hD hS (lv_sub hl [0] rfl) h
                    · replace h := it_t h hc
                      refine lv_aload_n hx hb d_M_run_164 rfl (lv_at hl 0 rfl) ?_
                      refine Mg_0_37 hx hb hB hown (hB _ m_898) hK hP d_M_run_165 ?_
                      refine lv_if_eq (tgt := 183) hx hb d_M_run_168 (by decide) (fun hc => ?_) (fun hc => ?_)
                      · replace h := it_t h hc
                        exact L183 σ H locs ls hP hD hS (lv_sub hl [0] rfl) h
                      · replace h := it_f h hc
                        refine lv_aload_n hx hb d_M_run_171 rfl (lv_at hl 0 rfl) ?_
                        obtain ⟨r89, s90, hr89, h⟩ := bd_some h
                        refine go_VI (rest := [.ref (a 0)]) ⟨hx, hb, hml, hown, hB⟩ nwM_ok (c_M_areAllBound l D ca g a tl N σ s90 r89 hr89) (cwx_V hB m_1134 kw_M_areAllBound ⟨by rw [hR]; decide, by rw [hR]; decide⟩ rfl rfl) (va_recv hK hP (ci := 1) (q0 := 0) rfl rfl) hN hK hP hD hS hA rfl hl.1 rfl (Nat.le_of_ble_eq_true rfl) d_M_run_172 ⟨by rw [hR]; exact Nat.le_of_ble_eq_true rfl, by rw [hR]; exact Nat.le_of_ble_eq_true rfl⟩ (fun H locs hP hD hS => ?_)
                        refine lv_if_ne (tgt := 183) hx hb d_M_run_175 (by decide) (fun hc => ?_) (fun hc => ?_)
                        · replace h := it_f h hc
                          exact L183 s90 H locs ls hP hD hS (lv_sub hl [0] rfl) h
                        · replace h := it_t h hc
                          refine lv_bipush (v := (-13 : Int32)) hx hb d_M_run_178 (by decide) ?_
                          refine lv_goto (tgt := 187) hx hb d_M_run_180 (by decide) ?_
                          exact L187 s90 (-13 : Int32) H locs ls hP hD hS (lv_sub hl [0] rfl) h
                  · replace h := it_f h hc
                    refine lv_aload_n hx hb d_M_run_120 rfl (lv_at hl 0 rfl) ?_
                    refine lv_aload_n hx hb d_M_run_121 rfl (lv_at hl 0 rfl) ?_
                    refine Mg_0_37 hx hb hB hown (hB _ m_898) hK hP d_M_run_122 ?_
                    refine lv_if_ne (tgt := 142) hx hb d_M_run_125 (by decide) (fun hc => ?_) (fun hc => ?_)
                    · replace h := it_f h hc
                      refine lv_iconst (v := (1 : Int32)) hx hb d_M_run_142 (by decide) ?_
                      refine lv_goto (tgt := 147) hx hb d_M_run_143 (by decide) ?_
                      obtain ⟨s91, es91, h⟩ := nm_some h
                      refine Mp_0_37 es91 hx hb hB hown (hB _ m_898) hK hP hD hS ⟨rfl, rfl⟩ d_M_run_147 (fun H locs hP hD hS => ?_)
                      refine lv_iinc (v := (x1 + 1)) (lv' := [(1, .int (x1 + 1)), (0, .ref (a 0))]) hx hb d_M_run_150 hl (k := 1) rfl rfl (by decide) rfl (fun ls hl => ?_)
                      refine lv_goto (tgt := 112) hx hb d_M_run_153 (by decide) ?_
                      exact ih112 s91 (x1 + 1) H locs ls hP hD hS (lv_sub hl [1, 0] rfl) h
                    · replace h := it_t h hc
                      refine lv_aload_n hx hb d_M_run_128 rfl (lv_at hl 0 rfl) ?_
                      refine Mg_0_12 hx hb hB hown (hB _ m_873) hK hP d_M_run_129 ?_
                      refine lv_aload_n hx hb d_M_run_132 rfl (lv_at hl 0 rfl) ?_
                      refine Mg_0_25 hx hb hB hown (hB _ m_886) hK hP d_M_run_133 ?_
                      refine lv_iload_n hx hb d_M_run_136 rfl (lv_at hl 1 rfl) ?_
                      obtain ⟨hi, h⟩ := ckb_some h
                      refine Ma_18 hx hb hK hP hi d_M_run_137 ?_
                      obtain ⟨hi, h⟩ := ckb_some h
                      refine Ma_11 hx hb hK hP hi d_M_run_138 ?_
                      refine lv_if_eq (tgt := 146) hx hb d_M_run_139 (by decide) (fun hc => ?_) (fun hc => ?_)
                      · replace h := it_t h hc
                        refine lv_iconst (v := (0 : Int32)) hx hb d_M_run_146 (by decide) ?_
                        obtain ⟨s92, es92, h⟩ := nm_some h
                        refine Mp_0_37 es92 hx hb hB hown (hB _ m_898) hK hP hD hS ⟨rfl, rfl⟩ d_M_run_147 (fun H locs hP hD hS => ?_)
                        refine lv_iinc (v := (x1 + 1)) (lv' := [(1, .int (x1 + 1)), (0, .ref (a 0))]) hx hb d_M_run_150 hl (k := 1) rfl rfl (by decide) rfl (fun ls hl => ?_)
                        refine lv_goto (tgt := 112) hx hb d_M_run_153 (by decide) ?_
                        exact ih112 s92 (x1 + 1) H locs ls hP hD hS (lv_sub hl [1, 0] rfl) h
                      · replace h := it_f h hc
                        refine lv_iconst (v := (1 : Int32)) hx hb d_M_run_142 (by decide) ?_
                        refine lv_goto (tgt := 147) hx hb d_M_run_143 (by decide) ?_
                        obtain ⟨s93, es93, h⟩ := nm_some h
                        refine Mp_0_37 es93 hx hb hB hown (hB _ m_898) hK hP hD hS ⟨rfl, rfl⟩ d_M_run_147 (fun H locs hP hD hS => ?_)
                        refine lv_iinc (v := (x1 + 1)) (lv' := [(1, .int (x1 + 1)), (0, .ref (a 0))]) hx hb d_M_run_150 hl (k := 1) rfl rfl (by decide) rfl (fun ls hl => ?_)
                        refine lv_goto (tgt := 112) hx hb d_M_run_153 (by decide) ?_
                        exact ih112 s93 (x1 + 1) H locs ls hP hD hS (lv_sub hl [1, 0] rfl) h
            refine lv_istore_n (lv' := [(1, .int (0 : Int32)), (0, .ref (a 0))]) hx hb d_M_run_111 rfl hl (by decide) rfl (fun ls hl => ?_)
            exact L112 N s50 (0 : Int32) H locs ls hP hD hS (lv_sub hl [1, 0] rfl) h
          · replace h := it_f h hc
            refine lv_iconst (v := (1 : Int32)) hx hb d_M_run_102 (by decide) ?_
            refine lv_goto (tgt := 107) hx hb d_M_run_103 (by decide) ?_
            obtain ⟨s94, es94, h⟩ := nm_some h
            refine Mp_0_37 es94 hx hb hB hown (hB _ m_898) hK hP hD hS ⟨rfl, rfl⟩ d_M_run_107 (fun H locs hP hD hS => ?_)
            refine lv_iconst (v := (0 : Int32)) hx hb d_M_run_110 (by decide) ?_
            have L112 : ∀ (n : Nat) (σ : St) (x1 : Int32) (H : Heap) (locs : List Loc) (ls : Array Slot), va_P D vCl (wM g ca a σ ++ tl) H → va_D A (wM g ca a σ ++ tl) → va_S A s.heap H locs → lv_has ls 2 [(0, .ref (a 0)), (1, .int x1)] → f_M_run_112 N n σ x1 = some (r, σ') → W p l e R s m args below meth c H locs 0 0 (MQ below (qb_QI D vCl (tyM ca) (wM g ca a σ' ++ tl) A r) args s 0 0 A) (F0 m 112 ls []) := by
              intro n
              induction n with
              | zero => intro σ x1 H locs ls hP hD hS hl h; cases h
              | succ n ih112 =>
                  intro σ x1 H locs ls hP hD hS hl h
                  obtain ⟨K112, eK112⟩ : ∃ K, K = f_M_run_112 N n := ⟨_, rfl⟩
                  rw [← eK112] at ih112
                  replace h : f_M_run_112_b N K112 σ x1 = some (r, σ') := by rw [eK112]; exact h
                  unfold f_M_run_112_b at h
                  refine lv_iload_n hx hb d_M_run_112 rfl (lv_at hl 1 rfl) ?_
                  refine lv_aload_n hx hb d_M_run_113 rfl (lv_at hl 0 rfl) ?_
                  refine Mg_0_24 hx hb hB hown (hB _ m_885) hK hP d_M_run_114 ?_
                  refine lv_icmp_ge (tgt := 156) hx hb d_M_run_117 (by decide) (fun hc => ?_) (fun hc => ?_)
                  · replace h := it_t h hc
                    refine lv_aload_n hx hb d_M_run_156 rfl (lv_at hl 0 rfl) ?_
                    refine lv_aload_n hx hb d_M_run_157 rfl (lv_at hl 0 rfl) ?_
                    refine Mg_0_36 hx hb hB hown (hB _ m_897) hK hP d_M_run_158 ?_
                    have L187 : ∀ (σ : St) (t0 : Int32) (H : Heap) (locs : List Loc) (ls : Array Slot), va_P D vCl (wM g ca a σ ++ tl) H → va_D A (wM g ca a σ ++ tl) → va_S A s.heap H locs → lv_has ls 2 [(0, .ref (a 0))] → f_M_run_187 N σ t0 = some (r, σ') → W p l e R s m args below meth c H locs 0 0 (MQ below (qb_QI D vCl (tyM ca) (wM g ca a σ' ++ tl) A r) args s 0 0 A) (F0 m 187 ls [.int t0, .ref (a 0)]) := by
                      intro σ t0 H locs ls hP hD hS hl h
                      unfold f_M_run_187 at h
                      obtain ⟨s95, es95, h⟩ := nm_some h
                      refine Mp_0_36 es95 hx hb hB hown (hB _ m_897) hK hP hD hS d_M_run_187 (fun H locs hP hD hS => ?_)
                      refine lv_aload_n hx hb d_M_run_190 rfl (lv_at hl 0 rfl) ?_
                      refine Mg_0_36 hx hb hB hown (hB _ m_897) hK hP d_M_run_191 ?_
                      refine lv_if_eq (tgt := 202) hx hb d_M_run_194 (by decide) (fun hc => ?_) (fun hc => ?_)
                      · replace h := it_t h hc
                        refine lv_iconst (v := (0 : Int32)) hx hb d_M_run_202 (by decide) ?_
                        have L204 : ∀ (n : Nat) (σ : St) (x1 : Int32) (H : Heap) (locs : List Loc) (ls : Array Slot), va_P D vCl (wM g ca a σ ++ tl) H → va_D A (wM g ca a σ ++ tl) → va_S A s.heap H locs → lv_has ls 2 [(0, .ref (a 0)), (1, .int x1)] → f_M_run_204 N n σ x1 = some (r, σ') → W p l e R s m args below meth c H locs 0 0 (MQ below (qb_QI D vCl (tyM ca) (wM g ca a σ' ++ tl) A r) args s 0 0 A) (F0 m 204 ls []) := by
                          intro n
                          induction n with
                          | zero => intro σ x1 H locs ls hP hD hS hl h; cases h
                          | succ n ih204 =>
                              intro σ x1 H locs ls hP hD hS hl h
                              obtain ⟨K204, eK204⟩ : ∃ K, K = f_M_run_204 N n := ⟨_, rfl⟩
                              rw [← eK204] at ih204
                              replace h : f_M_run_204_b N K204 σ x1 = some (r, σ') := by rw [eK204]; exact h
                              unfold f_M_run_204_b at h
                              refine lv_iload_n hx hb d_M_run_204 rfl (lv_at hl 1 rfl) ?_
                              refine lv_bipush (v := (8 : Int32)) hx hb d_M_run_205 (by decide) ?_
                              refine lv_icmp_ge (tgt := 223) hx hb d_M_run_207 (by decide) (fun hc => ?_) (fun hc => ?_)
                              · replace h := it_t h hc
                                refine lv_aload_n hx hb d_M_run_223 rfl (lv_at hl 0 rfl) ?_
                                refine Mg_0_21 hx hb hB hown (hB _ m_882) hK hP d_M_run_224 ?_
                                refine lv_if_lt (tgt := 238) hx hb d_M_run_227 (by decide) (fun hc => ?_) (fun hc => ?_)
                                · replace h := it_t h hc
                                  refine lv_iconst (v := (0 : Int32)) hx hb d_M_run_238 (by decide) ?_
                                  have L240 : ∀ (n : Nat) (σ : St) (x1 : Int32) (H : Heap) (locs : List Loc) (ls : Array Slot), va_P D vCl (wM g ca a σ ++ tl) H → va_D A (wM g ca a σ ++ tl) → va_S A s.heap H locs → lv_has ls 2 [(0, .ref (a 0)), (1, .int x1)] → f_M_run_240 N n σ x1 = some (r, σ') → W p l e R s m args below meth c H locs 0 0 (MQ below (qb_QI D vCl (tyM ca) (wM g ca a σ' ++ tl) A r) args s 0 0 A) (F0 m 240 ls []) := by
                                    intro n
                                    induction n with
                                    | zero => intro σ x1 H locs ls hP hD hS hl h; cases h
                                    | succ n ih240 =>
                                        intro σ x1 H locs ls hP hD hS hl h
                                        obtain ⟨K240, eK240⟩ : ∃ K, K = f_M_run_240 N n := ⟨_, rfl⟩
                                        rw [← eK240] at ih240
                                        replace h : f_M_run_240_b N K240 σ x1 = some (r, σ') := by rw [eK240]; exact h
                                        unfold f_M_run_240_b at h
                                        refine lv_iload_n hx hb d_M_run_240 rfl (lv_at hl 1 rfl) ?_
                                        refine lv_aload_n hx hb d_M_run_241 rfl (lv_at hl 0 rfl) ?_
                                        refine Mg_0_24 hx hb hB hown (hB _ m_885) hK hP d_M_run_242 ?_
                                        refine lv_icmp_ge (tgt := 264) hx hb d_M_run_245 (by decide) (fun hc => ?_) (fun hc => ?_)
                                        · replace h := it_t h hc
                                          refine lv_aload_n hx hb d_M_run_264 rfl (lv_at hl 0 rfl) ?_
                                          refine lv_iconst (v := (0 : Int32)) hx hb d_M_run_265 (by decide) ?_
                                          obtain ⟨s96, es96, h⟩ := nm_some h
                                          refine Mp_0_39 es96 hx hb hB hown (hB _ m_900) hK hP hD hS d_M_run_266 (fun H locs hP hD hS => ?_)
                                          refine lv_aload_n hx hb d_M_run_269 rfl (lv_at hl 0 rfl) ?_
                                          refine lv_iconst (v := (0 : Int32)) hx hb d_M_run_270 (by decide) ?_
                                          obtain ⟨s97, es97, h⟩ := nm_some h
                                          refine Mp_0_43 es97 hx hb hB hown (hB _ m_904) hK hP hD hS d_M_run_271 (fun H locs hP hD hS => ?_)
                                          refine lv_aload_n hx hb d_M_run_274 rfl (lv_at hl 0 rfl) ?_
                                          refine lv_iconst (v := (-1 : Int32)) hx hb d_M_run_275 (by decide) ?_
                                          obtain ⟨s98, es98, h⟩ := nm_some h
                                          refine Mp_0_48 es98 hx hb hB hown (hB _ m_909) hK hP hD hS d_M_run_276 (fun H locs hP hD hS => ?_)
                                          refine lv_aload_n hx hb d_M_run_279 rfl (lv_at hl 0 rfl) ?_
                                          obtain ⟨r99, s100, hr99, h⟩ := bd_some h
                                          cases r99
                                          refine go_VV (rest := []) ⟨hx, hb, hml, hown, hB⟩ nwM_ok (c_M_goFirst l D ca g a tl N s98 s100 hr99) (cwx_V hB m_1150 kw_M_goFirst ⟨by rw [hR]; decide, by rw [hR]; decide⟩ rfl rfl) (va_recv hK hP (ci := 1) (q0 := 0) rfl rfl) hN hK hP hD hS hA rfl hl.1 rfl (Nat.le_of_ble_eq_true rfl) d_M_run_280 ⟨by rw [hR]; exact Nat.le_of_ble_eq_true rfl, by rw [hR]; exact Nat.le_of_ble_eq_true rfl⟩ (fun H locs hP hD hS => ?_)
                                          refine lv_aload_n hx hb d_M_run_283 rfl (lv_at hl 0 rfl) ?_
                                          refine Mg_0_37 hx hb hB hown (hB _ m_898) hK hP d_M_run_284 ?_
                                          have L301 : ∀ (σ : St) (H : Heap) (locs : List Loc) (ls : Array Slot), va_P D vCl (wM g ca a σ ++ tl) H → va_D A (wM g ca a σ ++ tl) → va_S A s.heap H locs → lv_has ls 2 [(0, .ref (a 0))] → f_M_run_301 N σ = some (r, σ') → W p l e R s m args below meth c H locs 0 0 (MQ below (qb_QI D vCl (tyM ca) (wM g ca a σ' ++ tl) A r) args s 0 0 A) (F0 m 301 ls []) := by
                                            intro σ H locs ls hP hD hS hl h
                                            unfold f_M_run_301 at h
                                            refine lv_aload_n hx hb d_M_run_301 rfl (lv_at hl 0 rfl) ?_
                                            refine Mg_0_36 hx hb hB hown (hB _ m_897) hK hP d_M_run_302 ?_
                                            refine lv_if_eq (tgt := 318) hx hb d_M_run_305 (by decide) (fun hc => ?_) (fun hc => ?_)
                                            · replace h := it_t h hc
                                              refine lv_aload_n hx hb d_M_run_318 rfl (lv_at hl 0 rfl) ?_
                                              refine Mg_0_29 hx hb hB hown (hB _ m_890) hK hP d_M_run_319 ?_
                                              have L329 : ∀ (σ : St) (H : Heap) (locs : List Loc) (ls : Array Slot), va_P D vCl (wM g ca a σ ++ tl) H → va_D A (wM g ca a σ ++ tl) → va_S A s.heap H locs → lv_has ls 2 [(0, .ref (a 0))] → f_M_run_329 N σ = some (r, σ') → W p l e R s m args below meth c H locs 0 0 (MQ below (qb_QI D vCl (tyM ca) (wM g ca a σ' ++ tl) A r) args s 0 0 A) (F0 m 329 ls []) := by
                                                intro σ H locs ls hP hD hS hl h
                                                unfold f_M_run_329 at h
                                                refine lv_aload_n hx hb d_M_run_329 rfl (lv_at hl 0 rfl) ?_
                                                obtain ⟨r101, s102, hr101, h⟩ := bd_some h
                                                cases r101
                                                refine go_VV (rest := []) ⟨hx, hb, hml, hown, hB⟩ nwM_ok (c_M_sort l D ca g a tl N σ s102 hr101) (cwx_V hB m_1245 kw_M_sort ⟨by rw [hR]; decide, by rw [hR]; decide⟩ rfl rfl) (va_recv hK hP (ci := 1) (q0 := 0) rfl rfl) hN hK hP hD hS hA rfl hl.1 rfl (Nat.le_of_ble_eq_true rfl) d_M_run_330 ⟨by rw [hR]; exact Nat.le_of_ble_eq_true rfl, by rw [hR]; exact Nat.le_of_ble_eq_true rfl⟩ (fun H locs hP hD hS => ?_)
                                                refine lv_aload_n hx hb d_M_run_333 rfl (lv_at hl 0 rfl) ?_
                                                obtain ⟨r103, s104, hr103, h⟩ := bd_some h
                                                cases r103
                                                refine go_VV (rest := []) ⟨hx, hb, hml, hown, hB⟩ nwM_ok (c_M_cut l D ca g a tl N s102 s104 hr103) (cwx_V hB m_1253 kw_M_cut ⟨by rw [hR]; decide, by rw [hR]; decide⟩ rfl rfl) (va_recv hK hP (ci := 1) (q0 := 0) rfl rfl) hN hK hP hD hS hA rfl hl.1 rfl (Nat.le_of_ble_eq_true rfl) d_M_run_334 ⟨by rw [hR]; exact Nat.le_of_ble_eq_true rfl, by rw [hR]; exact Nat.le_of_ble_eq_true rfl⟩ (fun H locs hP hD hS => ?_)
                                                refine lv_aload_n hx hb d_M_run_337 rfl (lv_at hl 0 rfl) ?_
                                                refine lv_aload_n hx hb d_M_run_338 rfl (lv_at hl 0 rfl) ?_
                                                refine Mg_0_24 hx hb hB hown (hB _ m_885) hK hP d_M_run_339 ?_
                                                obtain ⟨s105, es105, h⟩ := nm_some h
                                                refine Mp_0_33 es105 hx hb hB hown (hB _ m_894) hK hP hD hS d_M_run_342 (fun H locs hP hD hS => ?_)
                                                refine lv_aload_n hx hb d_M_run_345 rfl (lv_at hl 0 rfl) ?_
                                                refine Mg_0_32 hx hb hB hown (hB _ m_893) hK hP d_M_run_346 ?_
                                                exact rf_I (w := (fun z => wM g ca a z ++ tl)) h hx hb hr hlk hK hP hD hS d_M_run_349
                                              refine lv_if_eq (tgt := 329) hx hb d_M_run_322 (by decide) (fun hc => ?_) (fun hc => ?_)
                                              · replace h := it_t h hc
                                                exact L329 σ H locs ls hP hD hS (lv_sub hl [0] rfl) h
                                              · replace h := it_f h hc
                                                refine lv_aload_n hx hb d_M_run_325 rfl (lv_at hl 0 rfl) ?_
                                                obtain ⟨r106, s107, hr106, h⟩ := bd_some h
                                                cases r106
                                                refine go_VV (rest := []) ⟨hx, hb, hml, hown, hB⟩ nwM_ok (c_M_leaveOut l D ca g a tl N σ s107 hr106) (cwx_V hB m_1233 kw_M_leaveOut ⟨by rw [hR]; decide, by rw [hR]; decide⟩ rfl rfl) (va_recv hK hP (ci := 1) (q0 := 0) rfl rfl) hN hK hP hD hS hA rfl hl.1 rfl (Nat.le_of_ble_eq_true rfl) d_M_run_326 ⟨by rw [hR]; exact Nat.le_of_ble_eq_true rfl, by rw [hR]; exact Nat.le_of_ble_eq_true rfl⟩ (fun H locs hP hD hS => ?_)
                                                exact L329 s107 H locs ls hP hD hS (lv_sub hl [0] rfl) h
                                            · replace h := it_f h hc
                                              refine lv_aload_n hx hb d_M_run_308 rfl (lv_at hl 0 rfl) ?_
                                              refine lv_iconst (v := (0 : Int32)) hx hb d_M_run_309 (by decide) ?_
                                              obtain ⟨s108, es108, h⟩ := nm_some h
                                              refine Mp_0_32 es108 hx hb hB hown (hB _ m_893) hK hP hD hS d_M_run_310 (fun H locs hP hD hS => ?_)
                                              refine lv_aload_n hx hb d_M_run_313 rfl (lv_at hl 0 rfl) ?_
                                              refine Mg_0_36 hx hb hB hown (hB _ m_897) hK hP d_M_run_314 ?_
                                              exact rf_I (w := (fun z => wM g ca a z ++ tl)) h hx hb hr hlk hK hP hD hS d_M_run_317
                                          refine lv_if_eq (tgt := 301) hx hb d_M_run_287 (by decide) (fun hc => ?_) (fun hc => ?_)
                                          · replace h := it_t h hc
                                            exact L301 s100 H locs ls hP hD hS (lv_sub hl [0] rfl) h
                                          · replace h := it_f h hc
                                            refine lv_aload_n hx hb d_M_run_290 rfl (lv_at hl 0 rfl) ?_
                                            refine Mg_0_36 hx hb hB hown (hB _ m_897) hK hP d_M_run_291 ?_
                                            refine lv_if_ne (tgt := 301) hx hb d_M_run_294 (by decide) (fun hc => ?_) (fun hc => ?_)
                                            · replace h := it_f h hc
                                              exact L301 s100 H locs ls hP hD hS (lv_sub hl [0] rfl) h
                                            · replace h := it_t h hc
                                              refine lv_aload_n hx hb d_M_run_297 rfl (lv_at hl 0 rfl) ?_
                                              obtain ⟨r109, s110, hr109, h⟩ := bd_some h
                                              cases r109
                                              refine go_VV (rest := []) ⟨hx, hb, hml, hown, hB⟩ nwM_ok (c_M_goThroughGroups l D ca g a tl N s100 s110 hr109) (cwx_V hB m_1229 kw_M_goThroughGroups ⟨by rw [hR]; decide, by rw [hR]; decide⟩ rfl rfl) (va_recv hK hP (ci := 1) (q0 := 0) rfl rfl) hN hK hP hD hS hA rfl hl.1 rfl (Nat.le_of_ble_eq_true rfl) d_M_run_298 ⟨by rw [hR]; exact Nat.le_of_ble_eq_true rfl, by rw [hR]; exact Nat.le_of_ble_eq_true rfl⟩ (fun H locs hP hD hS => ?_)
                                              exact L301 s110 H locs ls hP hD hS (lv_sub hl [0] rfl) h
                                        · replace h := it_f h hc
                                          refine lv_aload_n hx hb d_M_run_248 rfl (lv_at hl 0 rfl) ?_
                                          refine lv_aload_n hx hb d_M_run_249 rfl (lv_at hl 0 rfl) ?_
                                          refine Mg_0_25 hx hb hB hown (hB _ m_886) hK hP d_M_run_250 ?_
                                          refine lv_iload_n hx hb d_M_run_253 rfl (lv_at hl 1 rfl) ?_
                                          obtain ⟨hi, h⟩ := ckb_some h
                                          refine Ma_18 hx hb hK hP hi d_M_run_254 ?_
                                          obtain ⟨r111, s112, hr111, h⟩ := bd_some h
                                          cases r111
                                          refine go_VV (rest := []) ⟨hx, hb, hml, hown, hB⟩ nwM_ok (c_M_ask l D ca g a tl N σ s112 (ga σ 15 (x1).toNatClampNeg) hr111) (cwx_V hB m_1146 kw_M_ask ⟨by rw [hR]; decide, by rw [hR]; decide⟩ rfl rfl) (va_recv hK hP (ci := 1) (q0 := 0) rfl rfl) hN hK hP hD hS hA rfl hl.1 rfl (Nat.le_of_ble_eq_true rfl) d_M_run_255 ⟨by rw [hR]; exact Nat.le_of_ble_eq_true rfl, by rw [hR]; exact Nat.le_of_ble_eq_true rfl⟩ (fun H locs hP hD hS => ?_)
                                          refine lv_iinc (v := (x1 + 1)) (lv' := [(1, .int (x1 + 1)), (0, .ref (a 0))]) hx hb d_M_run_258 hl (k := 1) rfl rfl (by decide) rfl (fun ls hl => ?_)
                                          refine lv_goto (tgt := 240) hx hb d_M_run_261 (by decide) ?_
                                          exact ih240 s112 (x1 + 1) H locs ls hP hD hS (lv_sub hl [1, 0] rfl) h
                                  refine lv_istore_n (lv' := [(1, .int (0 : Int32)), (0, .ref (a 0))]) hx hb d_M_run_239 rfl hl (by decide) rfl (fun ls hl => ?_)
                                  exact L240 N σ (0 : Int32) H locs ls hP hD hS (lv_sub hl [1, 0] rfl) h
                                · replace h := it_f h hc
                                  refine lv_aload_n hx hb d_M_run_230 rfl (lv_at hl 0 rfl) ?_
                                  refine lv_aload_n hx hb d_M_run_231 rfl (lv_at hl 0 rfl) ?_
                                  refine Mg_0_21 hx hb hB hown (hB _ m_882) hK hP d_M_run_232 ?_
                                  obtain ⟨r113, s114, hr113, h⟩ := bd_some h
                                  cases r113
                                  refine go_VV (rest := []) ⟨hx, hb, hml, hown, hB⟩ nwM_ok (c_M_ask l D ca g a tl N σ s114 (gi σ 5) hr113) (cwx_V hB m_1146 kw_M_ask ⟨by rw [hR]; decide, by rw [hR]; decide⟩ rfl rfl) (va_recv hK hP (ci := 1) (q0 := 0) rfl rfl) hN hK hP hD hS hA rfl hl.1 rfl (Nat.le_of_ble_eq_true rfl) d_M_run_235 ⟨by rw [hR]; exact Nat.le_of_ble_eq_true rfl, by rw [hR]; exact Nat.le_of_ble_eq_true rfl⟩ (fun H locs hP hD hS => ?_)
                                  refine lv_iconst (v := (0 : Int32)) hx hb d_M_run_238 (by decide) ?_
                                  have L240 : ∀ (n : Nat) (σ : St) (x1 : Int32) (H : Heap) (locs : List Loc) (ls : Array Slot), va_P D vCl (wM g ca a σ ++ tl) H → va_D A (wM g ca a σ ++ tl) → va_S A s.heap H locs → lv_has ls 2 [(0, .ref (a 0)), (1, .int x1)] → f_M_run_240 N n σ x1 = some (r, σ') → W p l e R s m args below meth c H locs 0 0 (MQ below (qb_QI D vCl (tyM ca) (wM g ca a σ' ++ tl) A r) args s 0 0 A) (F0 m 240 ls []) := by
                                    intro n
                                    induction n with
                                    | zero => intro σ x1 H locs ls hP hD hS hl h; cases h
                                    | succ n ih240 =>
                                        intro σ x1 H locs ls hP hD hS hl h
                                        obtain ⟨K240, eK240⟩ : ∃ K, K = f_M_run_240 N n := ⟨_, rfl⟩
                                        rw [← eK240] at ih240
                                        replace h : f_M_run_240_b N K240 σ x1 = some (r, σ') := by rw [eK240]; exact h
                                        unfold f_M_run_240_b at h
                                        refine lv_iload_n hx hb d_M_run_240 rfl (lv_at hl 1 rfl) ?_
                                        refine lv_aload_n hx hb d_M_run_241 rfl (lv_at hl 0 rfl) ?_
                                        refine Mg_0_24 hx hb hB hown (hB _ m_885) hK hP d_M_run_242 ?_
                                        refine lv_icmp_ge (tgt := 264) hx hb d_M_run_245 (by decide) (fun hc => ?_) (fun hc => ?_)
                                        · replace h := it_t h hc
                                          refine lv_aload_n hx hb d_M_run_264 rfl (lv_at hl 0 rfl) ?_
                                          refine lv_iconst (v := (0 : Int32)) hx hb d_M_run_265 (by decide) ?_
                                          obtain ⟨s115, es115, h⟩ := nm_some h
                                          refine Mp_0_39 es115 hx hb hB hown (hB _ m_900) hK hP hD hS d_M_run_266 (fun H locs hP hD hS => ?_)
                                          refine lv_aload_n hx hb d_M_run_269 rfl (lv_at hl 0 rfl) ?_
                                          refine lv_iconst (v := (0 : Int32)) hx hb d_M_run_270 (by decide) ?_
                                          obtain ⟨s116, es116, h⟩ := nm_some h
                                          refine Mp_0_43 es116 hx hb hB hown (hB _ m_904) hK hP hD hS d_M_run_271 (fun H locs hP hD hS => ?_)
                                          refine lv_aload_n hx hb d_M_run_274 rfl (lv_at hl 0 rfl) ?_
                                          refine lv_iconst (v := (-1 : Int32)) hx hb d_M_run_275 (by decide) ?_
                                          obtain ⟨s117, es117, h⟩ := nm_some h
                                          refine Mp_0_48 es117 hx hb hB hown (hB _ m_909) hK hP hD hS d_M_run_276 (fun H locs hP hD hS => ?_)
                                          refine lv_aload_n hx hb d_M_run_279 rfl (lv_at hl 0 rfl) ?_
                                          obtain ⟨r118, s119, hr118, h⟩ := bd_some h
                                          cases r118
                                          refine go_VV (rest := []) ⟨hx, hb, hml, hown, hB⟩ nwM_ok (c_M_goFirst l D ca g a tl N s117 s119 hr118) (cwx_V hB m_1150 kw_M_goFirst ⟨by rw [hR]; decide, by rw [hR]; decide⟩ rfl rfl) (va_recv hK hP (ci := 1) (q0 := 0) rfl rfl) hN hK hP hD hS hA rfl hl.1 rfl (Nat.le_of_ble_eq_true rfl) d_M_run_280 ⟨by rw [hR]; exact Nat.le_of_ble_eq_true rfl, by rw [hR]; exact Nat.le_of_ble_eq_true rfl⟩ (fun H locs hP hD hS => ?_)
                                          refine lv_aload_n hx hb d_M_run_283 rfl (lv_at hl 0 rfl) ?_
                                          refine Mg_0_37 hx hb hB hown (hB _ m_898) hK hP d_M_run_284 ?_
                                          have L301 : ∀ (σ : St) (H : Heap) (locs : List Loc) (ls : Array Slot), va_P D vCl (wM g ca a σ ++ tl) H → va_D A (wM g ca a σ ++ tl) → va_S A s.heap H locs → lv_has ls 2 [(0, .ref (a 0))] → f_M_run_301 N σ = some (r, σ') → W p l e R s m args below meth c H locs 0 0 (MQ below (qb_QI D vCl (tyM ca) (wM g ca a σ' ++ tl) A r) args s 0 0 A) (F0 m 301 ls []) := by
                                            intro σ H locs ls hP hD hS hl h
                                            unfold f_M_run_301 at h
                                            refine lv_aload_n hx hb d_M_run_301 rfl (lv_at hl 0 rfl) ?_
                                            refine Mg_0_36 hx hb hB hown (hB _ m_897) hK hP d_M_run_302 ?_
                                            refine lv_if_eq (tgt := 318) hx hb d_M_run_305 (by decide) (fun hc => ?_) (fun hc => ?_)
                                            · replace h := it_t h hc
                                              refine lv_aload_n hx hb d_M_run_318 rfl (lv_at hl 0 rfl) ?_
                                              refine Mg_0_29 hx hb hB hown (hB _ m_890) hK hP d_M_run_319 ?_
                                              have L329 : ∀ (σ : St) (H : Heap) (locs : List Loc) (ls : Array Slot), va_P D vCl (wM g ca a σ ++ tl) H → va_D A (wM g ca a σ ++ tl) → va_S A s.heap H locs → lv_has ls 2 [(0, .ref (a 0))] → f_M_run_329 N σ = some (r, σ') → W p l e R s m args below meth c H locs 0 0 (MQ below (qb_QI D vCl (tyM ca) (wM g ca a σ' ++ tl) A r) args s 0 0 A) (F0 m 329 ls []) := by
                                                intro σ H locs ls hP hD hS hl h
                                                unfold f_M_run_329 at h
                                                refine lv_aload_n hx hb d_M_run_329 rfl (lv_at hl 0 rfl) ?_
                                                obtain ⟨r120, s121, hr120, h⟩ := bd_some h
                                                cases r120
                                                refine go_VV (rest := []) ⟨hx, hb, hml, hown, hB⟩ nwM_ok (c_M_sort l D ca g a tl N σ s121 hr120) (cwx_V hB m_1245 kw_M_sort ⟨by rw [hR]; decide, by rw [hR]; decide⟩ rfl rfl) (va_recv hK hP (ci := 1) (q0 := 0) rfl rfl) hN hK hP hD hS hA rfl hl.1 rfl (Nat.le_of_ble_eq_true rfl) d_M_run_330 ⟨by rw [hR]; exact Nat.le_of_ble_eq_true rfl, by rw [hR]; exact Nat.le_of_ble_eq_true rfl⟩ (fun H locs hP hD hS => ?_)
                                                refine lv_aload_n hx hb d_M_run_333 rfl (lv_at hl 0 rfl) ?_
                                                obtain ⟨r122, s123, hr122, h⟩ := bd_some h
                                                cases r122
                                                refine go_VV (rest := []) ⟨hx, hb, hml, hown, hB⟩ nwM_ok (c_M_cut l D ca g a tl N s121 s123 hr122) (cwx_V hB m_1253 kw_M_cut ⟨by rw [hR]; decide, by rw [hR]; decide⟩ rfl rfl) (va_recv hK hP (ci := 1) (q0 := 0) rfl rfl) hN hK hP hD hS hA rfl hl.1 rfl (Nat.le_of_ble_eq_true rfl) d_M_run_334 ⟨by rw [hR]; exact Nat.le_of_ble_eq_true rfl, by rw [hR]; exact Nat.le_of_ble_eq_true rfl⟩ (fun H locs hP hD hS => ?_)
                                                refine lv_aload_n hx hb d_M_run_337 rfl (lv_at hl 0 rfl) ?_
                                                refine lv_aload_n hx hb d_M_run_338 rfl (lv_at hl 0 rfl) ?_
                                                refine Mg_0_24 hx hb hB hown (hB _ m_885) hK hP d_M_run_339 ?_
                                                obtain ⟨s124, es124, h⟩ := nm_some h
                                                refine Mp_0_33 es124 hx hb hB hown (hB _ m_894) hK hP hD hS d_M_run_342 (fun H locs hP hD hS => ?_)
                                                refine lv_aload_n hx hb d_M_run_345 rfl (lv_at hl 0 rfl) ?_
                                                refine Mg_0_32 hx hb hB hown (hB _ m_893) hK hP d_M_run_346 ?_
                                                exact rf_I (w := (fun z => wM g ca a z ++ tl)) h hx hb hr hlk hK hP hD hS d_M_run_349
                                              refine lv_if_eq (tgt := 329) hx hb d_M_run_322 (by decide) (fun hc => ?_) (fun hc => ?_)
                                              · replace h := it_t h hc
                                                exact L329 σ H locs ls hP hD hS (lv_sub hl [0] rfl) h
                                              · replace h := it_f h hc
                                                refine lv_aload_n hx hb d_M_run_325 rfl (lv_at hl 0 rfl) ?_
                                                obtain ⟨r125, s126, hr125, h⟩ := bd_some h
                                                cases r125
                                                refine go_VV (rest := []) ⟨hx, hb, hml, hown, hB⟩ nwM_ok (c_M_leaveOut l D ca g a tl N σ s126 hr125) (cwx_V hB m_1233 kw_M_leaveOut ⟨by rw [hR]; decide, by rw [hR]; decide⟩ rfl rfl) (va_recv hK hP (ci := 1) (q0 := 0) rfl rfl) hN hK hP hD hS hA rfl hl.1 rfl (Nat.le_of_ble_eq_true rfl) d_M_run_326 ⟨by rw [hR]; exact Nat.le_of_ble_eq_true rfl, by rw [hR]; exact Nat.le_of_ble_eq_true rfl⟩ (fun H locs hP hD hS => ?_)
                                                exact L329 s126 H locs ls hP hD hS (lv_sub hl [0] rfl) h
                                            · replace h := it_f h hc
                                              refine lv_aload_n hx hb d_M_run_308 rfl (lv_at hl 0 rfl) ?_
                                              refine lv_iconst (v := (0 : Int32)) hx hb d_M_run_309 (by decide) ?_
                                              obtain ⟨s127, es127, h⟩ := nm_some h
                                              refine Mp_0_32 es127 hx hb hB hown (hB _ m_893) hK hP hD hS d_M_run_310 (fun H locs hP hD hS => ?_)
                                              refine lv_aload_n hx hb d_M_run_313 rfl (lv_at hl 0 rfl) ?_
                                              refine Mg_0_36 hx hb hB hown (hB _ m_897) hK hP d_M_run_314 ?_
                                              exact rf_I (w := (fun z => wM g ca a z ++ tl)) h hx hb hr hlk hK hP hD hS d_M_run_317
                                          refine lv_if_eq (tgt := 301) hx hb d_M_run_287 (by decide) (fun hc => ?_) (fun hc => ?_)
                                          · replace h := it_t h hc
                                            exact L301 s119 H locs ls hP hD hS (lv_sub hl [0] rfl) h
                                          · replace h := it_f h hc
                                            refine lv_aload_n hx hb d_M_run_290 rfl (lv_at hl 0 rfl) ?_
                                            refine Mg_0_36 hx hb hB hown (hB _ m_897) hK hP d_M_run_291 ?_
                                            refine lv_if_ne (tgt := 301) hx hb d_M_run_294 (by decide) (fun hc => ?_) (fun hc => ?_)
                                            · replace h := it_f h hc
                                              exact L301 s119 H locs ls hP hD hS (lv_sub hl [0] rfl) h
                                            · replace h := it_t h hc
                                              refine lv_aload_n hx hb d_M_run_297 rfl (lv_at hl 0 rfl) ?_
                                              obtain ⟨r128, s129, hr128, h⟩ := bd_some h
                                              cases r128
                                              refine go_VV (rest := []) ⟨hx, hb, hml, hown, hB⟩ nwM_ok (c_M_goThroughGroups l D ca g a tl N s119 s129 hr128) (cwx_V hB m_1229 kw_M_goThroughGroups ⟨by rw [hR]; decide, by rw [hR]; decide⟩ rfl rfl) (va_recv hK hP (ci := 1) (q0 := 0) rfl rfl) hN hK hP hD hS hA rfl hl.1 rfl (Nat.le_of_ble_eq_true rfl) d_M_run_298 ⟨by rw [hR]; exact Nat.le_of_ble_eq_true rfl, by rw [hR]; exact Nat.le_of_ble_eq_true rfl⟩ (fun H locs hP hD hS => ?_)
                                              exact L301 s129 H locs ls hP hD hS (lv_sub hl [0] rfl) h
                                        · replace h := it_f h hc
                                          refine lv_aload_n hx hb d_M_run_248 rfl (lv_at hl 0 rfl) ?_
                                          refine lv_aload_n hx hb d_M_run_249 rfl (lv_at hl 0 rfl) ?_
                                          refine Mg_0_25 hx hb hB hown (hB _ m_886) hK hP d_M_run_250 ?_
                                          refine lv_iload_n hx hb d_M_run_253 rfl (lv_at hl 1 rfl) ?_
                                          obtain ⟨hi, h⟩ := ckb_some h
                                          refine Ma_18 hx hb hK hP hi d_M_run_254 ?_
                                          obtain ⟨r130, s131, hr130, h⟩ := bd_some h
                                          cases r130
                                          refine go_VV (rest := []) ⟨hx, hb, hml, hown, hB⟩ nwM_ok (c_M_ask l D ca g a tl N σ s131 (ga σ 15 (x1).toNatClampNeg) hr130) (cwx_V hB m_1146 kw_M_ask ⟨by rw [hR]; decide, by rw [hR]; decide⟩ rfl rfl) (va_recv hK hP (ci := 1) (q0 := 0) rfl rfl) hN hK hP hD hS hA rfl hl.1 rfl (Nat.le_of_ble_eq_true rfl) d_M_run_255 ⟨by rw [hR]; exact Nat.le_of_ble_eq_true rfl, by rw [hR]; exact Nat.le_of_ble_eq_true rfl⟩ (fun H locs hP hD hS => ?_)
                                          refine lv_iinc (v := (x1 + 1)) (lv' := [(1, .int (x1 + 1)), (0, .ref (a 0))]) hx hb d_M_run_258 hl (k := 1) rfl rfl (by decide) rfl (fun ls hl => ?_)
                                          refine lv_goto (tgt := 240) hx hb d_M_run_261 (by decide) ?_
                                          exact ih240 s131 (x1 + 1) H locs ls hP hD hS (lv_sub hl [1, 0] rfl) h
                                  refine lv_istore_n (lv' := [(1, .int (0 : Int32)), (0, .ref (a 0))]) hx hb d_M_run_239 rfl hl (by decide) rfl (fun ls hl => ?_)
                                  exact L240 N s114 (0 : Int32) H locs ls hP hD hS (lv_sub hl [1, 0] rfl) h
                              · replace h := it_f h hc
                                refine lv_aload_n hx hb d_M_run_210 rfl (lv_at hl 0 rfl) ?_
                                refine Mg_0_47 hx hb hB hown (hB _ m_908) hK hP d_M_run_211 ?_
                                refine lv_iload_n hx hb d_M_run_214 rfl (lv_at hl 1 rfl) ?_
                                refine lv_iconst (v := (0 : Int32)) hx hb d_M_run_215 (by decide) ?_
                                obtain ⟨hi, h⟩ := ckb_some h
                                obtain ⟨s132, es132, h⟩ := nm_some h
                                refine Ms_30 es132 hx hb hK hP hD hS hi d_M_run_216 (fun H locs hP hD hS => ?_)
                                refine lv_iinc (v := (x1 + 1)) (lv' := [(1, .int (x1 + 1)), (0, .ref (a 0))]) hx hb d_M_run_217 hl (k := 1) rfl rfl (by decide) rfl (fun ls hl => ?_)
                                refine lv_goto (tgt := 204) hx hb d_M_run_220 (by decide) ?_
                                exact ih204 s132 (x1 + 1) H locs ls hP hD hS (lv_sub hl [1, 0] rfl) h
                        refine lv_istore_n (lv' := [(1, .int (0 : Int32)), (0, .ref (a 0))]) hx hb d_M_run_203 rfl hl (by decide) rfl (fun ls hl => ?_)
                        exact L204 N s95 (0 : Int32) H locs ls hP hD hS (lv_sub hl [1, 0] rfl) h
                      · replace h := it_f h hc
                        refine lv_aload_n hx hb d_M_run_197 rfl (lv_at hl 0 rfl) ?_
                        refine Mg_0_36 hx hb hB hown (hB _ m_897) hK hP d_M_run_198 ?_
                        exact rf_I (w := (fun z => wM g ca a z ++ tl)) h hx hb hr hlk hK hP hD hS d_M_run_201
                    have L183 : ∀ (σ : St) (H : Heap) (locs : List Loc) (ls : Array Slot), va_P D vCl (wM g ca a σ ++ tl) H → va_D A (wM g ca a σ ++ tl) → va_S A s.heap H locs → lv_has ls 2 [(0, .ref (a 0))] → f_M_run_183 N σ = some (r, σ') → W p l e R s m args below meth c H locs 0 0 (MQ below (qb_QI D vCl (tyM ca) (wM g ca a σ' ++ tl) A r) args s 0 0 A) (F0 m 183 ls [.ref (a 0)]) := by
                      intro σ H locs ls hP hD hS hl h
                      unfold f_M_run_183 at h
                      refine lv_aload_n hx hb d_M_run_183 rfl (lv_at hl 0 rfl) ?_
                      refine Mg_0_36 hx hb hB hown (hB _ m_897) hK hP d_M_run_184 ?_
                      exact L187 σ (gi σ 14) H locs ls hP hD hS (lv_sub hl [0] rfl) h
                    refine lv_if_ne (tgt := 183) hx hb d_M_run_161 (by decide) (fun hc => ?_) (fun hc => ?_)
                    · replace h := it_f h hc
                      exact L183 σ H locs ls hP hD hS (lv_sub hl [0] rfl) h
                    · replace h := it_t h hc
                      refine lv_aload_n hx hb d_M_run_164 rfl (lv_at hl 0 rfl) ?_
                      refine Mg_0_37 hx hb hB hown (hB _ m_898) hK hP d_M_run_165 ?_
                      refine lv_if_eq (tgt := 183) hx hb d_M_run_168 (by decide) (fun hc => ?_) (fun hc => ?_)
                      · replace h := it_t h hc
                        exact L183 σ H locs ls hP hD hS (lv_sub hl [0] rfl) h
                      · replace h := it_f h hc
                        refine lv_aload_n hx hb d_M_run_171 rfl (lv_at hl 0 rfl) ?_
                        obtain ⟨r133, s134, hr133, h⟩ := bd_some h
                        refine go_VI (rest := [.ref (a 0)]) ⟨hx, hb, hml, hown, hB⟩ nwM_ok (c_M_areAllBound l D ca g a tl N σ s134 r133 hr133) (cwx_V hB m_1134 kw_M_areAllBound ⟨by rw [hR]; decide, by rw [hR]; decide⟩ rfl rfl) (va_recv hK hP (ci := 1) (q0 := 0) rfl rfl) hN hK hP hD hS hA rfl hl.1 rfl (Nat.le_of_ble_eq_true rfl) d_M_run_172 ⟨by rw [hR]; exact Nat.le_of_ble_eq_true rfl, by rw [hR]; exact Nat.le_of_ble_eq_true rfl⟩ (fun H locs hP hD hS => ?_)
                        refine lv_if_ne (tgt := 183) hx hb d_M_run_175 (by decide) (fun hc => ?_) (fun hc => ?_)
                        · replace h := it_f h hc
                          exact L183 s134 H locs ls hP hD hS (lv_sub hl [0] rfl) h
                        · replace h := it_t h hc
                          refine lv_bipush (v := (-13 : Int32)) hx hb d_M_run_178 (by decide) ?_
                          refine lv_goto (tgt := 187) hx hb d_M_run_180 (by decide) ?_
                          exact L187 s134 (-13 : Int32) H locs ls hP hD hS (lv_sub hl [0] rfl) h
                  · replace h := it_f h hc
                    refine lv_aload_n hx hb d_M_run_120 rfl (lv_at hl 0 rfl) ?_
                    refine lv_aload_n hx hb d_M_run_121 rfl (lv_at hl 0 rfl) ?_
                    refine Mg_0_37 hx hb hB hown (hB _ m_898) hK hP d_M_run_122 ?_
                    refine lv_if_ne (tgt := 142) hx hb d_M_run_125 (by decide) (fun hc => ?_) (fun hc => ?_)
                    · replace h := it_f h hc
                      refine lv_iconst (v := (1 : Int32)) hx hb d_M_run_142 (by decide) ?_
                      refine lv_goto (tgt := 147) hx hb d_M_run_143 (by decide) ?_
                      obtain ⟨s135, es135, h⟩ := nm_some h
                      refine Mp_0_37 es135 hx hb hB hown (hB _ m_898) hK hP hD hS ⟨rfl, rfl⟩ d_M_run_147 (fun H locs hP hD hS => ?_)
                      refine lv_iinc (v := (x1 + 1)) (lv' := [(1, .int (x1 + 1)), (0, .ref (a 0))]) hx hb d_M_run_150 hl (k := 1) rfl rfl (by decide) rfl (fun ls hl => ?_)
                      refine lv_goto (tgt := 112) hx hb d_M_run_153 (by decide) ?_
                      exact ih112 s135 (x1 + 1) H locs ls hP hD hS (lv_sub hl [1, 0] rfl) h
                    · replace h := it_t h hc
                      refine lv_aload_n hx hb d_M_run_128 rfl (lv_at hl 0 rfl) ?_
                      refine Mg_0_12 hx hb hB hown (hB _ m_873) hK hP d_M_run_129 ?_
                      refine lv_aload_n hx hb d_M_run_132 rfl (lv_at hl 0 rfl) ?_
                      refine Mg_0_25 hx hb hB hown (hB _ m_886) hK hP d_M_run_133 ?_
                      refine lv_iload_n hx hb d_M_run_136 rfl (lv_at hl 1 rfl) ?_
                      obtain ⟨hi, h⟩ := ckb_some h
                      refine Ma_18 hx hb hK hP hi d_M_run_137 ?_
                      obtain ⟨hi, h⟩ := ckb_some h
                      refine Ma_11 hx hb hK hP hi d_M_run_138 ?_
                      refine lv_if_eq (tgt := 146) hx hb d_M_run_139 (by decide) (fun hc => ?_) (fun hc => ?_)
                      · replace h := it_t h hc
                        refine lv_iconst (v := (0 : Int32)) hx hb d_M_run_146 (by decide) ?_
                        obtain ⟨s136, es136, h⟩ := nm_some h
                        refine Mp_0_37 es136 hx hb hB hown (hB _ m_898) hK hP hD hS ⟨rfl, rfl⟩ d_M_run_147 (fun H locs hP hD hS => ?_)
                        refine lv_iinc (v := (x1 + 1)) (lv' := [(1, .int (x1 + 1)), (0, .ref (a 0))]) hx hb d_M_run_150 hl (k := 1) rfl rfl (by decide) rfl (fun ls hl => ?_)
                        refine lv_goto (tgt := 112) hx hb d_M_run_153 (by decide) ?_
                        exact ih112 s136 (x1 + 1) H locs ls hP hD hS (lv_sub hl [1, 0] rfl) h
                      · replace h := it_f h hc
                        refine lv_iconst (v := (1 : Int32)) hx hb d_M_run_142 (by decide) ?_
                        refine lv_goto (tgt := 147) hx hb d_M_run_143 (by decide) ?_
                        obtain ⟨s137, es137, h⟩ := nm_some h
                        refine Mp_0_37 es137 hx hb hB hown (hB _ m_898) hK hP hD hS ⟨rfl, rfl⟩ d_M_run_147 (fun H locs hP hD hS => ?_)
                        refine lv_iinc (v := (x1 + 1)) (lv' := [(1, .int (x1 + 1)), (0, .ref (a 0))]) hx hb d_M_run_150 hl (k := 1) rfl rfl (by decide) rfl (fun ls hl => ?_)
                        refine lv_goto (tgt := 112) hx hb d_M_run_153 (by decide) ?_
                        exact ih112 s137 (x1 + 1) H locs ls hP hD hS (lv_sub hl [1, 0] rfl) h
            refine lv_istore_n (lv' := [(1, .int (0 : Int32)), (0, .ref (a 0))]) hx hb d_M_run_111 rfl hl (by decide) rfl (fun ls hl => ?_)
            exact L112 N s94 (0 : Int32) H locs ls hP hD hS (lv_sub hl [1, 0] rfl) h
      have L80 : ∀ (σ : St) (H : Heap) (locs : List Loc) (ls : Array Slot), va_P D vCl (wM g ca a σ ++ tl) H → va_D A (wM g ca a σ ++ tl) → va_S A s.heap H locs → lv_has ls 2 [(0, .ref (a 0))] → f_M_run_80 N σ = some (r, σ') → W p l e R s m args below meth c H locs 0 0 (MQ below (qb_QI D vCl (tyM ca) (wM g ca a σ' ++ tl) A r) args s 0 0 A) (F0 m 80 ls [.ref (a 0)]) := by
        intro σ H locs ls hP hD hS hl h
        unfold f_M_run_80 at h
        refine lv_aload_n hx hb d_M_run_80 rfl (lv_at hl 0 rfl) ?_
        refine Mg_0_36 hx hb hB hown (hB _ m_897) hK hP d_M_run_81 ?_
        exact L84 σ (gi σ 14) H locs ls hP hD hS (lv_sub hl [0] rfl) h
      refine lv_if_ne (tgt := 80) hx hb d_M_run_65 (by decide) (fun hc => ?_) (fun hc => ?_)
      · replace h := it_f h hc
        exact L80 s4 H locs ls hP hD hS (lv_sub hl [0] rfl) h
      · replace h := it_t h hc
        refine lv_aload_n hx hb d_M_run_68 rfl (lv_at hl 0 rfl) ?_
        obtain ⟨r138, s139, hr138, h⟩ := bd_some h
        refine go_VI (rest := [.ref (a 0)]) ⟨hx, hb, hml, hown, hB⟩ nwM_ok (c_M_areAggregatesRight l D ca g a tl N s4 s139 r138 hr138) (cwx_V hB m_1130 kw_M_areAggregatesRight ⟨by rw [hR]; decide, by rw [hR]; decide⟩ rfl rfl) (va_recv hK hP (ci := 1) (q0 := 0) rfl rfl) hN hK hP hD hS hA rfl hl.1 rfl (Nat.le_of_ble_eq_true rfl) d_M_run_69 ⟨by rw [hR]; exact Nat.le_of_ble_eq_true rfl, by rw [hR]; exact Nat.le_of_ble_eq_true rfl⟩ (fun H locs hP hD hS => ?_)
        refine lv_if_ne (tgt := 80) hx hb d_M_run_72 (by decide) (fun hc => ?_) (fun hc => ?_)
        · replace h := it_f h hc
          exact L80 s139 H locs ls hP hD hS (lv_sub hl [0] rfl) h
        · replace h := it_t h hc
          refine lv_bipush (v := (-12 : Int32)) hx hb d_M_run_75 (by decide) ?_
          refine lv_goto (tgt := 84) hx hb d_M_run_77 (by decide) ?_
          exact L84 s139 (-12 : Int32) H locs ls hP hD hS (lv_sub hl [0] rfl) h
    have L53 : ∀ (σ : St) (H : Heap) (locs : List Loc) (ls : Array Slot), va_P D vCl (wM g ca a σ ++ tl) H → va_D A (wM g ca a σ ++ tl) → va_S A s.heap H locs → lv_has ls 2 [(0, .ref (a 0))] → f_M_run_53 N σ = some (r, σ') → W p l e R s m args below meth c H locs 0 0 (MQ below (qb_QI D vCl (tyM ca) (wM g ca a σ' ++ tl) A r) args s 0 0 A) (F0 m 53 ls [.ref (a 0)]) := by
      intro σ H locs ls hP hD hS hl h
      unfold f_M_run_53 at h
      refine lv_aload_n hx hb d_M_run_53 rfl (lv_at hl 0 rfl) ?_
      refine Mg_0_36 hx hb hB hown (hB _ m_897) hK hP d_M_run_54 ?_
      exact L57 σ (gi σ 14) H locs ls hP hD hS (lv_sub hl [0] rfl) h
    refine lv_if_ne (tgt := 53) hx hb d_M_run_38 (by decide) (fun hc => ?_) (fun hc => ?_)
    · replace h := it_f h hc
      exact L53 s3 H locs ls hP hD hS (lv_sub hl [0] rfl) h
    · replace h := it_t h hc
      refine lv_aload_n hx hb d_M_run_41 rfl (lv_at hl 0 rfl) ?_
      obtain ⟨r140, s141, hr140, h⟩ := bd_some h
      refine go_VI (rest := [.ref (a 0)]) ⟨hx, hb, hml, hown, hB⟩ nwM_ok (c_M_areColumnsRight l D ca g a tl N s3 s141 r140 hr140) (cwx_V hB m_1118 kw_M_areColumnsRight ⟨by rw [hR]; decide, by rw [hR]; decide⟩ rfl rfl) (va_recv hK hP (ci := 1) (q0 := 0) rfl rfl) hN hK hP hD hS hA rfl hl.1 rfl (Nat.le_of_ble_eq_true rfl) d_M_run_42 ⟨by rw [hR]; exact Nat.le_of_ble_eq_true rfl, by rw [hR]; exact Nat.le_of_ble_eq_true rfl⟩ (fun H locs hP hD hS => ?_)
      refine lv_if_ne (tgt := 53) hx hb d_M_run_45 (by decide) (fun hc => ?_) (fun hc => ?_)
      · replace h := it_f h hc
        exact L53 s141 H locs ls hP hD hS (lv_sub hl [0] rfl) h
      · replace h := it_t h hc
        refine lv_bipush (v := (-11 : Int32)) hx hb d_M_run_48 (by decide) ?_
        refine lv_goto (tgt := 57) hx hb d_M_run_50 (by decide) ?_
        exact L57 s141 (-11 : Int32) H locs ls hP hD hS (lv_sub hl [0] rfl) h
  have L25 : ∀ (σ : St) (H : Heap) (locs : List Loc) (ls : Array Slot), va_P D vCl (wM g ca a σ ++ tl) H → va_D A (wM g ca a σ ++ tl) → va_S A s.heap H locs → lv_has ls 2 [(0, .ref (a 0))] → f_M_run_25 N σ = some (r, σ') → W p l e R s m args below meth c H locs 0 0 (MQ below (qb_QI D vCl (tyM ca) (wM g ca a σ' ++ tl) A r) args s 0 0 A) (F0 m 25 ls [.ref (a 0)]) := by
    intro σ H locs ls hP hD hS hl h
    unfold f_M_run_25 at h
    refine lv_iconst (v := (-1 : Int32)) hx hb d_M_run_25 (by decide) ?_
    refine lv_goto (tgt := 30) hx hb d_M_run_26 (by decide) ?_
    exact L30 σ (-1 : Int32) H locs ls hP hD hS (lv_sub hl [0] rfl) h
  refine lv_if_eq (tgt := 25) hx hb d_M_run_15 (by decide) (fun hc => ?_) (fun hc => ?_)
  · replace h := it_t h hc
    exact L25 s2 H locs ls hP hD hS (lv_sub hl [0] rfl) h
  · replace h := it_f h hc
    refine lv_aload_n hx hb d_M_run_18 rfl (lv_at hl 0 rfl) ?_
    refine Mg_0_24 hx hb hB hown (hB _ m_885) hK hP d_M_run_19 ?_
    refine lv_if_ne (tgt := 29) hx hb d_M_run_22 (by decide) (fun hc => ?_) (fun hc => ?_)
    · replace h := it_f h hc
      refine lv_iconst (v := (0 : Int32)) hx hb d_M_run_29 (by decide) ?_
      exact L30 s2 (0 : Int32) H locs ls hP hD hS (lv_sub hl [0] rfl) h
    · replace h := it_t h hc
      exact L25 s2 H locs ls hP hD hS (lv_sub hl [0] rfl) h
