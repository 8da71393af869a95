set_option maxRecDepth 100000 in
set_option maxHeartbeats 4000000 in
theorem c_M_goThird (l : Launch) (D : va_G) (ca : Nat → ClassId) (g : Bool) (a : Nat → Nat) (tl : va_W) (N : Nat) (σ σ' : St) (h : f_M_goThird N σ = some ((), σ')) : CtV l y_M_goThird ws_M_goThird rm_M_goThird 0 0 D vCl (tyM ca) nwM [.ref (a 0)] (wM g ca a σ ++ tl) (wM g ca a σ' ++ tl) := by
  refine en_V (ws' := BIG) (by decide +kernel) rfl (Nat.le_of_ble_eq_true rfl) ?_
  intro p e s m below meth c A ls R args H locs hR hx hb hr hlk hml hown hB hK hN hP hD hA hS hl
  have hl : lv_has ls 3 [(0, .ref (a 0))] := hl
  unfold f_M_goThird at h
  refine lv_aload_n hx hb d_M_goThird_0 rfl (lv_at hl 0 rfl) ?_
  refine Mg_0_16 hx hb hB hown (hB _ m_877) hK hP d_M_goThird_1 ?_
  refine lv_iconst (v := (3 : Int32)) hx hb d_M_goThird_4 (by decide) ?_
  refine lv_icmp_ge (tgt := 13) hx hb d_M_goThird_5 (by decide) (fun hc => ?_) (fun hc => ?_)
  · replace h := it_t h hc
    refine lv_iconst (v := (0 : Int32)) hx hb d_M_goThird_13 (by decide) ?_
    refine lv_istore_n (lv' := [(1, .int (0 : Int32)), (0, .ref (a 0))]) hx hb d_M_goThird_14 rfl hl (by decide) rfl (fun ls hl => ?_)
    refine lv_iconst (v := (0 : Int32)) hx hb d_M_goThird_15 (by decide) ?_
    have L17 : ∀ (n : Nat) (σ : St) (x1 : Int32) (x2 : Int32) (H : Heap) (locs : List Loc) (ls : Array Slot), va_P D vCl (wM g ca a σ ++ tl) H → va_D A (wM g ca a σ ++ tl) → va_S A s.heap H locs → lv_has ls 3 [(0, .ref (a 0)), (1, .int x1), (2, .int x2)] → f_M_goThird_17 N n σ x1 x2 = some ((), σ') → W p l e R s m args below meth c H locs 0 0 (MQ below (qb_QV D vCl (tyM ca) (wM g ca a σ' ++ tl) A) args s 0 0 A) (F0 m 17 ls []) := by
      intro n
      induction n with
      | zero => intro σ x1 x2 H locs ls hP hD hS hl h; cases h
      | succ n ih17 =>
          intro σ x1 x2 H locs ls hP hD hS hl h
          obtain ⟨K17, eK17⟩ : ∃ K, K = f_M_goThird_17 N n := ⟨_, rfl⟩
          rw [← eK17] at ih17
          replace h : f_M_goThird_17_b N K17 σ x1 x2 = some ((), σ') := by rw [eK17]; exact h
          unfold f_M_goThird_17_b at h
          refine lv_iload_n hx hb d_M_goThird_17 rfl (lv_at hl 2 rfl) ?_
          refine lv_aload_n hx hb d_M_goThird_18 rfl (lv_at hl 0 rfl) ?_
          refine Mg_0_2 hx hb hB hown (hB _ m_863) hK hP d_M_goThird_19 ?_
          refine lv_aload_n hx hb d_M_goThird_22 rfl (lv_at hl 0 rfl) ?_
          refine Mg_0_17 hx hb hB hown (hB _ m_878) hK hP d_M_goThird_23 ?_
          refine lv_iconst (v := (2 : Int32)) hx hb d_M_goThird_26 (by decide) ?_
          obtain ⟨hi, h⟩ := ckb_some h
          refine Ma_14 hx hb hK hP hi d_M_goThird_27 ?_
          obtain ⟨hi, h⟩ := ckb_some h
          refine Ma_2 hx hb hK hP hi d_M_goThird_28 ?_
          have L66 : ∀ (σ : St) (x1 : Int32) (H : Heap) (locs : List Loc) (ls : Array Slot), va_P D vCl (wM g ca a σ ++ tl) H → va_D A (wM g ca a σ ++ tl) → va_S A s.heap H locs → lv_has ls 3 [(0, .ref (a 0)), (1, .int x1)] → f_M_goThird_66 N σ x1 = some ((), σ') → W p l e R s m args below meth c H locs 0 0 (MQ below (qb_QV D vCl (tyM ca) (wM g ca a σ' ++ tl) A) args s 0 0 A) (F0 m 66 ls []) := by
            intro σ x1 H locs ls hP hD hS hl h
            unfold f_M_goThird_66 at h
            refine lv_iload_n hx hb d_M_goThird_66 rfl (lv_at hl 1 rfl) ?_
            refine lv_if_ne (tgt := 98) hx hb d_M_goThird_67 (by decide) (fun hc => ?_) (fun hc => ?_)
            · replace h := it_f h hc
              exact rf_V (w := (fun z => wM g ca a z ++ tl)) h hx hb hr hlk hK hP hD hS d_M_goThird_98
            · replace h := it_t h hc
              refine lv_aload_n hx hb d_M_goThird_70 rfl (lv_at hl 0 rfl) ?_
              refine Mg_0_18 hx hb hB hown (hB _ m_879) hK hP d_M_goThird_71 ?_
              refine lv_iconst (v := (2 : Int32)) hx hb d_M_goThird_74 (by decide) ?_
              obtain ⟨hi, h⟩ := ckb_some h
              refine Ma_15 hx hb hK hP hi d_M_goThird_75 ?_
              refine lv_iconst (v := (2 : Int32)) hx hb d_M_goThird_76 (by decide) ?_
              refine lv_icmp_ne (tgt := 98) hx hb d_M_goThird_77 (by decide) (fun hc => ?_) (fun hc => ?_)
              · replace h := it_f h hc
                exact rf_V (w := (fun z => wM g ca a z ++ tl)) h hx hb hr hlk hK hP hD hS d_M_goThird_98
              · replace h := it_t h hc
                refine lv_aload_n hx hb d_M_goThird_80 rfl (lv_at hl 0 rfl) ?_
                refine Mg_0_36 hx hb hB hown (hB _ m_897) hK hP d_M_goThird_81 ?_
                refine lv_if_ne (tgt := 98) hx hb d_M_goThird_84 (by decide) (fun hc => ?_) (fun hc => ?_)
                · replace h := it_f h hc
                  exact rf_V (w := (fun z => wM g ca a z ++ tl)) h hx hb hr hlk hK hP hD hS d_M_goThird_98
                · replace h := it_t h hc
                  refine lv_aload_n hx hb d_M_goThird_87 rfl (lv_at hl 0 rfl) ?_
                  refine Mg_0_38 hx hb hB hown (hB _ m_899) hK hP d_M_goThird_88 ?_
                  refine lv_iconst (v := (2 : Int32)) hx hb d_M_goThird_91 (by decide) ?_
                  refine lv_iconst (v := (-1 : Int32)) hx hb d_M_goThird_92 (by decide) ?_
                  obtain ⟨hi, h⟩ := ckb_some h
                  obtain ⟨s1, es1, h⟩ := nm_some h
                  refine Ms_23 es1 hx hb hK hP hD hS hi d_M_goThird_93 (fun H locs hP hD hS => ?_)
                  refine lv_aload_n hx hb d_M_goThird_94 rfl (lv_at hl 0 rfl) ?_
                  obtain ⟨r2, s3, hr2, h⟩ := bd_some h
                  cases r2
                  refine go_VV (rest := []) ⟨hx, hb, hml, hown, hB⟩ nwM_ok (c_M_goTogether l D ca g a tl N s1 s3 hr2) (cwx_V hB m_1158 kw_M_goTogether ⟨by rw [hR]; decide, by rw [hR]; decide⟩ rfl rfl) (va_recv hK hP (ci := 1) (q0 := 0) rfl rfl) hN hK hP hD hS hA rfl hl.1 rfl (Nat.le_of_ble_eq_true rfl) d_M_goThird_95 ⟨by rw [hR]; exact Nat.le_of_ble_eq_true rfl, by rw [hR]; exact Nat.le_of_ble_eq_true rfl⟩ (fun H locs hP hD hS => ?_)
                  exact rf_V (w := (fun z => wM g ca a z ++ tl)) h hx hb hr hlk hK hP hD hS d_M_goThird_98
          refine lv_icmp_ge (tgt := 66) hx hb d_M_goThird_29 (by decide) (fun hc => ?_) (fun hc => ?_)
          · replace h := it_t h hc
            exact L66 σ x1 H locs ls hP hD hS (lv_sub hl [0, 1] rfl) h
          · replace h := it_f h hc
            refine lv_aload_n hx hb d_M_goThird_32 rfl (lv_at hl 0 rfl) ?_
            refine Mg_0_36 hx hb hB hown (hB _ m_897) hK hP d_M_goThird_33 ?_
            refine lv_if_ne (tgt := 66) hx hb d_M_goThird_36 (by decide) (fun hc => ?_) (fun hc => ?_)
            · replace h := it_f h hc
              exact L66 σ x1 H locs ls hP hD hS (lv_sub hl [0, 1] rfl) h
            · replace h := it_t h hc
              refine lv_aload_n hx hb d_M_goThird_39 rfl (lv_at hl 0 rfl) ?_
              refine Mg_0_38 hx hb hB hown (hB _ m_899) hK hP d_M_goThird_40 ?_
              refine lv_iconst (v := (2 : Int32)) hx hb d_M_goThird_43 (by decide) ?_
              refine lv_iload_n hx hb d_M_goThird_44 rfl (lv_at hl 2 rfl) ?_
              obtain ⟨hi, h⟩ := ckb_some h
              obtain ⟨s4, es4, h⟩ := nm_some h
              refine Ms_23 es4 hx hb hK hP hD hS hi d_M_goThird_45 (fun H locs hP hD hS => ?_)
              refine lv_aload_n hx hb d_M_goThird_46 rfl (lv_at hl 0 rfl) ?_
              refine lv_iconst (v := (2 : Int32)) hx hb d_M_goThird_47 (by decide) ?_
              obtain ⟨r5, s6, hr5, h⟩ := bd_some h
              refine go_VI (rest := []) ⟨hx, hb, hml, hown, hB⟩ nwM_ok (c_M_goes l D ca g a tl N s4 s6 (2 : Int32) r5 hr5) (cwx_V hB m_1221 kw_M_goes ⟨by rw [hR]; decide, by rw [hR]; decide⟩ rfl rfl) (va_recv hK hP (ci := 1) (q0 := 0) rfl rfl) hN hK hP hD hS hA rfl hl.1 rfl (Nat.le_of_ble_eq_true rfl) d_M_goThird_48 ⟨by rw [hR]; exact Nat.le_of_ble_eq_true rfl, by rw [hR]; exact Nat.le_of_ble_eq_true rfl⟩ (fun H locs hP hD hS => ?_)
              refine lv_if_eq (tgt := 60) hx hb d_M_goThird_51 (by decide) (fun hc => ?_) (fun hc => ?_)
              · replace h := it_t h hc
                refine lv_iinc (v := (x2 + 1)) (lv' := [(2, .int (x2 + 1)), (0, .ref (a 0)), (1, .int x1)]) hx hb d_M_goThird_60 hl (k := 2) rfl rfl (by decide) rfl (fun ls hl => ?_)
                refine lv_goto (tgt := 17) hx hb d_M_goThird_63 (by decide) ?_
                exact ih17 s6 x1 (x2 + 1) H locs ls hP hD hS (lv_sub hl [1, 2, 0] rfl) h
              · replace h := it_f h hc
                refine lv_iconst (v := (1 : Int32)) hx hb d_M_goThird_54 (by decide) ?_
                refine lv_istore_n (lv' := [(1, .int (1 : Int32)), (0, .ref (a 0)), (2, .int x2)]) hx hb d_M_goThird_55 rfl hl (by decide) rfl (fun ls hl => ?_)
                refine lv_aload_n hx hb d_M_goThird_56 rfl (lv_at hl 1 rfl) ?_
                obtain ⟨r7, s8, hr7, h⟩ := bd_some h
                cases r7
                refine go_VV (rest := []) ⟨hx, hb, hml, hown, hB⟩ nwM_ok (c_M_goTogether l D ca g a tl N s6 s8 hr7) (cwx_V hB m_1158 kw_M_goTogether ⟨by rw [hR]; decide, by rw [hR]; decide⟩ rfl rfl) (va_recv hK hP (ci := 1) (q0 := 0) rfl rfl) hN hK hP hD hS hA rfl hl.1 rfl (Nat.le_of_ble_eq_true rfl) d_M_goThird_57 ⟨by rw [hR]; exact Nat.le_of_ble_eq_true rfl, by rw [hR]; exact Nat.le_of_ble_eq_true rfl⟩ (fun H locs hP hD hS => ?_)
                refine lv_iinc (v := (x2 + 1)) (lv' := [(2, .int (x2 + 1)), (1, .int (1 : Int32)), (0, .ref (a 0))]) hx hb d_M_goThird_60 hl (k := 2) rfl rfl (by decide) rfl (fun ls hl => ?_)
                refine lv_goto (tgt := 17) hx hb d_M_goThird_63 (by decide) ?_
                exact ih17 s8 (1 : Int32) (x2 + 1) H locs ls hP hD hS (lv_sub hl [2, 1, 0] rfl) h
    refine lv_istore_n (lv' := [(2, .int (0 : Int32)), (1, .int (0 : Int32)), (0, .ref (a 0))]) hx hb d_M_goThird_16 rfl hl (by decide) rfl (fun ls hl => ?_)
    exact L17 N σ (0 : Int32) (0 : Int32) H locs ls hP hD hS (lv_sub hl [2, 1, 0] rfl) h
  · replace h := it_f h hc
    refine lv_aload_n hx hb d_M_goThird_8 rfl (lv_at hl 0 rfl) ?_
    obtain ⟨r9, s10, hr9, h⟩ := bd_some h
    cases r9
    refine go_VV (rest := []) ⟨hx, hb, hml, hown, hB⟩ nwM_ok (c_M_goTogether l D ca g a tl N σ s10 hr9) (cwx_V hB m_1158 kw_M_goTogether ⟨by rw [hR]; decide, by rw [hR]; decide⟩ rfl rfl) (va_recv hK hP (ci := 1) (q0 := 0) rfl rfl) hN hK hP hD hS hA rfl hl.1 rfl (Nat.le_of_ble_eq_true rfl) d_M_goThird_9 ⟨by rw [hR]; exact Nat.le_of_ble_eq_true rfl, by rw [hR]; exact Nat.le_of_ble_eq_true rfl⟩ (fun H locs hP hD hS => ?_)
    exact rf_V (w := (fun z => wM g ca a z ++ tl)) h hx hb hr hlk hK hP hD hS d_M_goThird_12
set_option maxRecDepth 100000 in
set_option maxHeartbeats 4000000 in
theorem c_M_goSecond (l : Launch) (D : va_G) (ca : Nat → ClassId) (g : Bool) (a : Nat → Nat) (tl : va_W) (N : Nat) (σ σ' : St) (h : f_M_goSecond N σ = some ((), σ')) : CtV l y_M_goSecond ws_M_goSecond rm_M_goSecond 0 0 D vCl (tyM ca) nwM [.ref (a 0)] (wM g ca a σ ++ tl) (wM g ca a σ' ++ tl) := by
  refine en_V (ws' := BIG) (by decide +kernel) rfl (Nat.le_of_ble_eq_true rfl) ?_
  intro p e s m below meth c A ls R args H locs hR hx hb hr hlk hml hown hB hK hN hP hD hA hS hl
  have hl : lv_has ls 3 [(0, .ref (a 0))] := hl
  unfold f_M_goSecond at h
  refine lv_aload_n hx hb d_M_goSecond_0 rfl (lv_at hl 0 rfl) ?_
  refine Mg_0_16 hx hb hB hown (hB _ m_877) hK hP d_M_goSecond_1 ?_
  refine lv_iconst (v := (2 : Int32)) hx hb d_M_goSecond_4 (by decide) ?_
  refine lv_icmp_ge (tgt := 13) hx hb d_M_goSecond_5 (by decide) (fun hc => ?_) (fun hc => ?_)
  · replace h := it_t h hc
    refine lv_iconst (v := (0 : Int32)) hx hb d_M_goSecond_13 (by decide) ?_
    refine lv_istore_n (lv' := [(1, .int (0 : Int32)), (0, .ref (a 0))]) hx hb d_M_goSecond_14 rfl hl (by decide) rfl (fun ls hl => ?_)
    refine lv_iconst (v := (0 : Int32)) hx hb d_M_goSecond_15 (by decide) ?_
    have L17 : ∀ (n : Nat) (σ : St) (x1 : Int32) (x2 : Int32) (H : Heap) (locs : List Loc) (ls : Array Slot), va_P D vCl (wM g ca a σ ++ tl) H → va_D A (wM g ca a σ ++ tl) → va_S A s.heap H locs → lv_has ls 3 [(0, .ref (a 0)), (1, .int x1), (2, .int x2)] → f_M_goSecond_17 N n σ x1 x2 = some ((), σ') → W p l e R s m args below meth c H locs 0 0 (MQ below (qb_QV D vCl (tyM ca) (wM g ca a σ' ++ tl) A) args s 0 0 A) (F0 m 17 ls []) := by
      intro n
      induction n with
      | zero => intro σ x1 x2 H locs ls hP hD hS hl h; cases h
      | succ n ih17 =>
          intro σ x1 x2 H locs ls hP hD hS hl h
          obtain ⟨K17, eK17⟩ : ∃ K, K = f_M_goSecond_17 N n := ⟨_, rfl⟩
          rw [← eK17] at ih17
          replace h : f_M_goSecond_17_b N K17 σ x1 x2 = some ((), σ') := by rw [eK17]; exact h
          unfold f_M_goSecond_17_b at h
          refine lv_iload_n hx hb d_M_goSecond_17 rfl (lv_at hl 2 rfl) ?_
          refine lv_aload_n hx hb d_M_goSecond_18 rfl (lv_at hl 0 rfl) ?_
          refine Mg_0_2 hx hb hB hown (hB _ m_863) hK hP d_M_goSecond_19 ?_
          refine lv_aload_n hx hb d_M_goSecond_22 rfl (lv_at hl 0 rfl) ?_
          refine Mg_0_17 hx hb hB hown (hB _ m_878) hK hP d_M_goSecond_23 ?_
          refine lv_iconst (v := (1 : Int32)) hx hb d_M_goSecond_26 (by decide) ?_
          obtain ⟨hi, h⟩ := ckb_some h
          refine Ma_14 hx hb hK hP hi d_M_goSecond_27 ?_
          obtain ⟨hi, h⟩ := ckb_some h
          refine Ma_2 hx hb hK hP hi d_M_goSecond_28 ?_
          have L66 : ∀ (σ : St) (x1 : Int32) (H : Heap) (locs : List Loc) (ls : Array Slot), va_P D vCl (wM g ca a σ ++ tl) H → va_D A (wM g ca a σ ++ tl) → va_S A s.heap H locs → lv_has ls 3 [(0, .ref (a 0)), (1, .int x1)] → f_M_goSecond_66 N σ x1 = some ((), σ') → W p l e R s m args below meth c H locs 0 0 (MQ below (qb_QV D vCl (tyM ca) (wM g ca a σ' ++ tl) A) args s 0 0 A) (F0 m 66 ls []) := by
            intro σ x1 H locs ls hP hD hS hl h
            unfold f_M_goSecond_66 at h
            refine lv_iload_n hx hb d_M_goSecond_66 rfl (lv_at hl 1 rfl) ?_
            refine lv_if_ne (tgt := 98) hx hb d_M_goSecond_67 (by decide) (fun hc => ?_) (fun hc => ?_)
            · replace h := it_f h hc
              exact rf_V (w := (fun z => wM g ca a z ++ tl)) h hx hb hr hlk hK hP hD hS d_M_goSecond_98
            · replace h := it_t h hc
              refine lv_aload_n hx hb d_M_goSecond_70 rfl (lv_at hl 0 rfl) ?_
              refine Mg_0_18 hx hb hB hown (hB _ m_879) hK hP d_M_goSecond_71 ?_
              refine lv_iconst (v := (1 : Int32)) hx hb d_M_goSecond_74 (by decide) ?_
              obtain ⟨hi, h⟩ := ckb_some h
              refine Ma_15 hx hb hK hP hi d_M_goSecond_75 ?_
              refine lv_iconst (v := (2 : Int32)) hx hb d_M_goSecond_76 (by decide) ?_
              refine lv_icmp_ne (tgt := 98) hx hb d_M_goSecond_77 (by decide) (fun hc => ?_) (fun hc => ?_)
              · replace h := it_f h hc
                exact rf_V (w := (fun z => wM g ca a z ++ tl)) h hx hb hr hlk hK hP hD hS d_M_goSecond_98
              · replace h := it_t h hc
                refine lv_aload_n hx hb d_M_goSecond_80 rfl (lv_at hl 0 rfl) ?_
                refine Mg_0_36 hx hb hB hown (hB _ m_897) hK hP d_M_goSecond_81 ?_
                refine lv_if_ne (tgt := 98) hx hb d_M_goSecond_84 (by decide) (fun hc => ?_) (fun hc => ?_)
                · replace h := it_f h hc
                  exact rf_V (w := (fun z => wM g ca a z ++ tl)) h hx hb hr hlk hK hP hD hS d_M_goSecond_98
                · replace h := it_t h hc
                  refine lv_aload_n hx hb d_M_goSecond_87 rfl (lv_at hl 0 rfl) ?_
                  refine Mg_0_38 hx hb hB hown (hB _ m_899) hK hP d_M_goSecond_88 ?_
                  refine lv_iconst (v := (1 : Int32)) hx hb d_M_goSecond_91 (by decide) ?_
                  refine lv_iconst (v := (-1 : Int32)) hx hb d_M_goSecond_92 (by decide) ?_
                  obtain ⟨hi, h⟩ := ckb_some h
                  obtain ⟨s1, es1, h⟩ := nm_some h
                  refine Ms_23 es1 hx hb hK hP hD hS hi d_M_goSecond_93 (fun H locs hP hD hS => ?_)
                  refine lv_aload_n hx hb d_M_goSecond_94 rfl (lv_at hl 0 rfl) ?_
                  obtain ⟨r2, s3, hr2, h⟩ := bd_some h
                  cases r2
                  refine go_VV (rest := []) ⟨hx, hb, hml, hown, hB⟩ nwM_ok (c_M_goThird l D ca g a tl N s1 s3 hr2) (cwx_V hB m_1225 kw_M_goThird ⟨by rw [hR]; decide, by rw [hR]; decide⟩ rfl rfl) (va_recv hK hP (ci := 1) (q0 := 0) rfl rfl) hN hK hP hD hS hA rfl hl.1 rfl (Nat.le_of_ble_eq_true rfl) d_M_goSecond_95 ⟨by rw [hR]; exact Nat.le_of_ble_eq_true rfl, by rw [hR]; exact Nat.le_of_ble_eq_true rfl⟩ (fun H locs hP hD hS => ?_)
                  exact rf_V (w := (fun z => wM g ca a z ++ tl)) h hx hb hr hlk hK hP hD hS d_M_goSecond_98
          refine lv_icmp_ge (tgt := 66) hx hb d_M_goSecond_29 (by decide) (fun hc => ?_) (fun hc => ?_)
          · replace h := it_t h hc
            exact L66 σ x1 H locs ls hP hD hS (lv_sub hl [0, 1] rfl) h
          · replace h := it_f h hc
            refine lv_aload_n hx hb d_M_goSecond_32 rfl (lv_at hl 0 rfl) ?_
            refine Mg_0_36 hx hb hB hown (hB _ m_897) hK hP d_M_goSecond_33 ?_
            refine lv_if_ne (tgt := 66) hx hb d_M_goSecond_36 (by decide) (fun hc => ?_) (fun hc => ?_)
            · replace h := it_f h hc
              exact L66 σ x1 H locs ls hP hD hS (lv_sub hl [0, 1] rfl) h
            · replace h := it_t h hc
              refine lv_aload_n hx hb d_M_goSecond_39 rfl (lv_at hl 0 rfl) ?_
              refine Mg_0_38 hx hb hB hown (hB _ m_899) hK hP d_M_goSecond_40 ?_
              refine lv_iconst (v := (1 : Int32)) hx hb d_M_goSecond_43 (by decide) ?_
              refine lv_iload_n hx hb d_M_goSecond_44 rfl (lv_at hl 2 rfl) ?_
              obtain ⟨hi, h⟩ := ckb_some h
              obtain ⟨s4, es4, h⟩ := nm_some h
              refine Ms_23 es4 hx hb hK hP hD hS hi d_M_goSecond_45 (fun H locs hP hD hS => ?_)
              refine lv_aload_n hx hb d_M_goSecond_46 rfl (lv_at hl 0 rfl) ?_
              refine lv_iconst (v := (1 : Int32)) hx hb d_M_goSecond_47 (by decide) ?_
              obtain ⟨r5, s6, hr5, h⟩ := bd_some h
              refine go_VI (rest := []) ⟨hx, hb, hml, hown, hB⟩ nwM_ok (c_M_goes l D ca g a tl N s4 s6 (1 : Int32) r5 hr5) (cwx_V hB m_1221 kw_M_goes ⟨by rw [hR]; decide, by rw [hR]; decide⟩ rfl rfl) (va_recv hK hP (ci := 1) (q0 := 0) rfl rfl) hN hK hP hD hS hA rfl hl.1 rfl (Nat.le_of_ble_eq_true rfl) d_M_goSecond_48 ⟨by rw [hR]; exact Nat.le_of_ble_eq_true rfl, by rw [hR]; exact Nat.le_of_ble_eq_true rfl⟩ (fun H locs hP hD hS => ?_)
              refine lv_if_eq (tgt := 60) hx hb d_M_goSecond_51 (by decide) (fun hc => ?_) (fun hc => ?_)
              · replace h := it_t h hc
                refine lv_iinc (v := (x2 + 1)) (lv' := [(2, .int (x2 + 1)), (0, .ref (a 0)), (1, .int x1)]) hx hb d_M_goSecond_60 hl (k := 2) rfl rfl (by decide) rfl (fun ls hl => ?_)
                refine lv_goto (tgt := 17) hx hb d_M_goSecond_63 (by decide) ?_
                exact ih17 s6 x1 (x2 + 1) H locs ls hP hD hS (lv_sub hl [1, 2, 0] rfl) h
              · replace h := it_f h hc
                refine lv_iconst (v := (1 : Int32)) hx hb d_M_goSecond_54 (by decide) ?_
                refine lv_istore_n (lv' := [(1, .int (1 : Int32)), (0, .ref (a 0)), (2, .int x2)]) hx hb d_M_goSecond_55 rfl hl (by decide) rfl (fun ls hl => ?_)
                refine lv_aload_n hx hb d_M_goSecond_56 rfl (lv_at hl 1 rfl) ?_
                obtain ⟨r7, s8, hr7, h⟩ := bd_some h
                cases r7
                refine go_VV (rest := []) ⟨hx, hb, hml, hown, hB⟩ nwM_ok (c_M_goThird l D ca g a tl N s6 s8 hr7) (cwx_V hB m_1225 kw_M_goThird ⟨by rw [hR]; decide, by rw [hR]; decide⟩ rfl rfl) (va_recv hK hP (ci := 1) (q0 := 0) rfl rfl) hN hK hP hD hS hA rfl hl.1 rfl (Nat.le_of_ble_eq_true rfl) d_M_goSecond_57 ⟨by rw [hR]; exact Nat.le_of_ble_eq_true rfl, by rw [hR]; exact Nat.le_of_ble_eq_true rfl⟩ (fun H locs hP hD hS => ?_)
                refine lv_iinc (v := (x2 + 1)) (lv' := [(2, .int (x2 + 1)), (1, .int (1 : Int32)), (0, .ref (a 0))]) hx hb d_M_goSecond_60 hl (k := 2) rfl rfl (by decide) rfl (fun ls hl => ?_)
                refine lv_goto (tgt := 17) hx hb d_M_goSecond_63 (by decide) ?_
                exact ih17 s8 (1 : Int32) (x2 + 1) H locs ls hP hD hS (lv_sub hl [2, 1, 0] rfl) h
    refine lv_istore_n (lv' := [(2, .int (0 : Int32)), (1, .int (0 : Int32)), (0, .ref (a 0))]) hx hb d_M_goSecond_16 rfl hl (by decide) rfl (fun ls hl => ?_)
    exact L17 N σ (0 : Int32) (0 : Int32) H locs ls hP hD hS (lv_sub hl [2, 1, 0] rfl) h
  · replace h := it_f h hc
    refine lv_aload_n hx hb d_M_goSecond_8 rfl (lv_at hl 0 rfl) ?_
    obtain ⟨r9, s10, hr9, h⟩ := bd_some h
    cases r9
    refine go_VV (rest := []) ⟨hx, hb, hml, hown, hB⟩ nwM_ok (c_M_goTogether l D ca g a tl N σ s10 hr9) (cwx_V hB m_1158 kw_M_goTogether ⟨by rw [hR]; decide, by rw [hR]; decide⟩ rfl rfl) (va_recv hK hP (ci := 1) (q0 := 0) rfl rfl) hN hK hP hD hS hA rfl hl.1 rfl (Nat.le_of_ble_eq_true rfl) d_M_goSecond_9 ⟨by rw [hR]; exact Nat.le_of_ble_eq_true rfl, by rw [hR]; exact Nat.le_of_ble_eq_true rfl⟩ (fun H locs hP hD hS => ?_)
    exact rf_V (w := (fun z => wM g ca a z ++ tl)) h hx hb hr hlk hK hP hD hS d_M_goSecond_12
set_option maxRecDepth 100000 in
set_option maxHeartbeats 4000000 in
theorem c_M_goFirst (l : Launch) (D : va_G) (ca : Nat → ClassId) (g : Bool) (a : Nat → Nat) (tl : va_W) (N : Nat) (σ σ' : St) (h : f_M_goFirst N σ = some ((), σ')) : CtV l y_M_goFirst ws_M_goFirst rm_M_goFirst 0 0 D vCl (tyM ca) nwM [.ref (a 0)] (wM g ca a σ ++ tl) (wM g ca a σ' ++ tl) := by
  refine en_V (ws' := BIG) (by decide +kernel) rfl (Nat.le_of_ble_eq_true rfl) ?_
  intro p e s m below meth c A ls R args H locs hR hx hb hr hlk hml hown hB hK hN hP hD hA hS hl
  have hl : lv_has ls 2 [(0, .ref (a 0))] := hl
  unfold f_M_goFirst at h
  refine lv_iconst (v := (0 : Int32)) hx hb d_M_goFirst_0 (by decide) ?_
  have L2 : ∀ (n : Nat) (σ : St) (x1 : Int32) (H : Heap) (locs : List Loc) (ls : Array Slot), va_P D vCl (wM g ca a σ ++ tl) H → va_D A (wM g ca a σ ++ tl) → va_S A s.heap H locs → lv_has ls 2 [(0, .ref (a 0)), (1, .int x1)] → f_M_goFirst_2 N n σ x1 = some ((), σ') → W p l e R s m args below meth c H locs 0 0 (MQ below (qb_QV D vCl (tyM ca) (wM g ca a σ' ++ tl) A) args s 0 0 A) (F0 m 2 ls []) := by
    intro n
    induction n with
    | zero => intro σ x1 H locs ls hP hD hS hl h; cases h
    | succ n ih2 =>
        intro σ x1 H locs ls hP hD hS hl h
        obtain ⟨K2, eK2⟩ : ∃ K, K = f_M_goFirst_2 N n := ⟨_, rfl⟩
        rw [← eK2] at ih2
        replace h : f_M_goFirst_2_b N K2 σ x1 = some ((), σ') := by rw [eK2]; exact h
        unfold f_M_goFirst_2_b at h
        refine lv_iload_n hx hb d_M_goFirst_2 rfl (lv_at hl 1 rfl) ?_
        refine lv_aload_n hx hb d_M_goFirst_3 rfl (lv_at hl 0 rfl) ?_
        refine Mg_0_2 hx hb hB hown (hB _ m_863) hK hP d_M_goFirst_4 ?_
        refine lv_aload_n hx hb d_M_goFirst_7 rfl (lv_at hl 0 rfl) ?_
        refine Mg_0_17 hx hb hB hown (hB _ m_878) hK hP d_M_goFirst_8 ?_
        refine lv_iconst (v := (0 : Int32)) hx hb d_M_goFirst_11 (by decide) ?_
        obtain ⟨hi, h⟩ := ckb_some h
        refine Ma_14 hx hb hK hP hi d_M_goFirst_12 ?_
        obtain ⟨hi, h⟩ := ckb_some h
        refine Ma_2 hx hb hK hP hi d_M_goFirst_13 ?_
        refine lv_icmp_ge (tgt := 41) hx hb d_M_goFirst_14 (by decide) (fun hc => ?_) (fun hc => ?_)
        · replace h := it_t h hc
          exact rf_V (w := (fun z => wM g ca a z ++ tl)) h hx hb hr hlk hK hP hD hS d_M_goFirst_41
        · replace h := it_f h hc
          refine lv_aload_n hx hb d_M_goFirst_17 rfl (lv_at hl 0 rfl) ?_
          refine Mg_0_36 hx hb hB hown (hB _ m_897) hK hP d_M_goFirst_18 ?_
          refine lv_if_ne (tgt := 41) hx hb d_M_goFirst_21 (by decide) (fun hc => ?_) (fun hc => ?_)
          · replace h := it_f h hc
            exact rf_V (w := (fun z => wM g ca a z ++ tl)) h hx hb hr hlk hK hP hD hS d_M_goFirst_41
          · replace h := it_t h hc
            refine lv_aload_n hx hb d_M_goFirst_24 rfl (lv_at hl 0 rfl) ?_
            refine Mg_0_38 hx hb hB hown (hB _ m_899) hK hP d_M_goFirst_25 ?_
            refine lv_iconst (v := (0 : Int32)) hx hb d_M_goFirst_28 (by decide) ?_
            refine lv_iload_n hx hb d_M_goFirst_29 rfl (lv_at hl 1 rfl) ?_
            obtain ⟨hi, h⟩ := ckb_some h
            obtain ⟨s1, es1, h⟩ := nm_some h
            refine Ms_23 es1 hx hb hK hP hD hS hi d_M_goFirst_30 (fun H locs hP hD hS => ?_)
            refine lv_aload_n hx hb d_M_goFirst_31 rfl (lv_at hl 0 rfl) ?_
            obtain ⟨r2, s3, hr2, h⟩ := bd_some h
            cases r2
            refine go_VV (rest := []) ⟨hx, hb, hml, hown, hB⟩ nwM_ok (c_M_goSecond l D ca g a tl N s1 s3 hr2) (cwx_V hB m_1154 kw_M_goSecond ⟨by rw [hR]; decide, by rw [hR]; decide⟩ rfl rfl) (va_recv hK hP (ci := 1) (q0 := 0) rfl rfl) hN hK hP hD hS hA rfl hl.1 rfl (Nat.le_of_ble_eq_true rfl) d_M_goFirst_32 ⟨by rw [hR]; exact Nat.le_of_ble_eq_true rfl, by rw [hR]; exact Nat.le_of_ble_eq_true rfl⟩ (fun H locs hP hD hS => ?_)
            refine lv_iinc (v := (x1 + 1)) (lv' := [(1, .int (x1 + 1)), (0, .ref (a 0))]) hx hb d_M_goFirst_35 hl (k := 1) rfl rfl (by decide) rfl (fun ls hl => ?_)
            refine lv_goto (tgt := 2) hx hb d_M_goFirst_38 (by decide) ?_
            exact ih2 s3 (x1 + 1) H locs ls hP hD hS (lv_sub hl [1, 0] rfl) h
  refine lv_istore_n (lv' := [(1, .int (0 : Int32)), (0, .ref (a 0))]) hx hb d_M_goFirst_1 rfl hl (by decide) rfl (fun ls hl => ?_)
  exact L2 N σ (0 : Int32) H locs ls hP hD hS (lv_sub hl [1, 0] rfl) h
set_option maxRecDepth 100000 in
set_option maxHeartbeats 4000000 in
theorem c_M_moveRow (l : Launch) (D : va_G) (ca : Nat → ClassId) (g : Bool) (a : Nat → Nat) (tl : va_W) (N : Nat) (σ σ' : St) (x1 : Int32) (x2 : Int32) (h : f_M_moveRow N σ x1 x2 = some ((), σ')) : CtV l y_M_moveRow ws_M_moveRow rm_M_moveRow 0 0 D vCl (tyM ca) nwM [.ref (a 0), .int x1, .int x2] (wM g ca a σ ++ tl) (wM g ca a σ' ++ tl) := by
  refine en_V (ws' := BIG) (by decide +kernel) rfl (Nat.le_of_ble_eq_true rfl) ?_
  intro p e s m below meth c A ls R args H locs hR hx hb hr hlk hml hown hB hK hN hP hD hA hS hl
  have hl : lv_has ls 4 [(0, .ref (a 0)), (1, .int x1), (2, .int x2)] := hl
  unfold f_M_moveRow at h
  refine lv_iconst (v := (0 : Int32)) hx hb d_M_moveRow_0 (by decide) ?_
  have L2 : ∀ (n : Nat) (σ : St) (x1 : Int32) (x2 : Int32) (x3 : Int32) (H : Heap) (locs : List Loc) (ls : Array Slot), va_P D vCl (wM g ca a σ ++ tl) H → va_D A (wM g ca a σ ++ tl) → va_S A s.heap H locs → lv_has ls 4 [(0, .ref (a 0)), (1, .int x1), (2, .int x2), (3, .int x3)] → f_M_moveRow_2 N n σ x1 x2 x3 = some ((), σ') → W p l e R s m args below meth c H locs 0 0 (MQ below (qb_QV D vCl (tyM ca) (wM g ca a σ' ++ tl) A) args s 0 0 A) (F0 m 2 ls []) := by
    intro n
    induction n with
    | zero => intro σ x1 x2 x3 H locs ls hP hD hS hl h; cases h
    | succ n ih2 =>
        intro σ x1 x2 x3 H locs ls hP hD hS hl h
        obtain ⟨K2, eK2⟩ : ∃ K, K = f_M_moveRow_2 N n := ⟨_, rfl⟩
        rw [← eK2] at ih2
        replace h : f_M_moveRow_2_b N K2 σ x1 x2 x3 = some ((), σ') := by rw [eK2]; exact h
        unfold f_M_moveRow_2_b at h
        refine lv_iload_n hx hb d_M_moveRow_2 rfl (lv_at hl 3 rfl) ?_
        refine lv_aload_n hx hb d_M_moveRow_3 rfl (lv_at hl 0 rfl) ?_
        refine Mg_0_24 hx hb hB hown (hB _ m_885) hK hP d_M_moveRow_4 ?_
        refine lv_icmp_ge (tgt := 60) hx hb d_M_moveRow_7 (by decide) (fun hc => ?_) (fun hc => ?_)
        · replace h := it_t h hc
          exact rf_V (w := (fun z => wM g ca a z ++ tl)) h hx hb hr hlk hK hP hD hS d_M_moveRow_60
        · replace h := it_f h hc
          refine lv_aload_n hx hb d_M_moveRow_10 rfl (lv_at hl 0 rfl) ?_
          refine Mg_0_34 hx hb hB hown (hB _ m_895) hK hP d_M_moveRow_11 ?_
          refine lv_bipush (v := (6 : Int32)) hx hb d_M_moveRow_14 (by decide) ?_
          refine lv_iload_n hx hb d_M_moveRow_16 rfl (lv_at hl 1 rfl) ?_
          refine lv_imul hx hb d_M_moveRow_17 ?_
          refine lv_iload_n hx hb d_M_moveRow_18 rfl (lv_at hl 3 rfl) ?_
          refine lv_iadd hx hb d_M_moveRow_19 ?_
          refine lv_aload_n hx hb d_M_moveRow_20 rfl (lv_at hl 0 rfl) ?_
          refine Mg_0_34 hx hb hB hown (hB _ m_895) hK hP d_M_moveRow_21 ?_
          refine lv_bipush (v := (6 : Int32)) hx hb d_M_moveRow_24 (by decide) ?_
          refine lv_iload_n hx hb d_M_moveRow_26 rfl (lv_at hl 2 rfl) ?_
          refine lv_imul hx hb d_M_moveRow_27 ?_
          refine lv_iload_n hx hb d_M_moveRow_28 rfl (lv_at hl 3 rfl) ?_
          refine lv_iadd hx hb d_M_moveRow_29 ?_
          obtain ⟨hi, h⟩ := ckb_some h
          refine Ma_21 hx hb hK hP hi d_M_moveRow_30 ?_
          obtain ⟨hi, h⟩ := ckb_some h
          obtain ⟨s1, es1, h⟩ := nm_some h
          refine Ms_21 es1 hx hb hK hP hD hS hi d_M_moveRow_31 (fun H locs hP hD hS => ?_)
          refine lv_aload_n hx hb d_M_moveRow_32 rfl (lv_at hl 0 rfl) ?_
          refine Mg_0_35 hx hb hB hown (hB _ m_896) hK hP d_M_moveRow_33 ?_
          refine lv_bipush (v := (6 : Int32)) hx hb d_M_moveRow_36 (by decide) ?_
          refine lv_iload_n hx hb d_M_moveRow_38 rfl (lv_at hl 1 rfl) ?_
          refine lv_imul hx hb d_M_moveRow_39 ?_
          refine lv_iload_n hx hb d_M_moveRow_40 rfl (lv_at hl 3 rfl) ?_
          refine lv_iadd hx hb d_M_moveRow_41 ?_
          refine lv_aload_n hx hb d_M_moveRow_42 rfl (lv_at hl 0 rfl) ?_
          refine Mg_0_35 hx hb hB hown (hB _ m_896) hK hP d_M_moveRow_43 ?_
          refine lv_bipush (v := (6 : Int32)) hx hb d_M_moveRow_46 (by decide) ?_
          refine lv_iload_n hx hb d_M_moveRow_48 rfl (lv_at hl 2 rfl) ?_
          refine lv_imul hx hb d_M_moveRow_49 ?_
          refine lv_iload_n hx hb d_M_moveRow_50 rfl (lv_at hl 3 rfl) ?_
          refine lv_iadd hx hb d_M_moveRow_51 ?_
          obtain ⟨hi, h⟩ := ckb_some h
          refine Ma_22 hx hb hK hP hi d_M_moveRow_52 ?_
          obtain ⟨hi, h⟩ := ckb_some h
          obtain ⟨s2, es2, h⟩ := nm_some h
          refine Ms_22 es2 hx hb hK hP hD hS hi d_M_moveRow_53 (fun H locs hP hD hS => ?_)
          refine lv_iinc (v := (x3 + 1)) (lv' := [(3, .int (x3 + 1)), (0, .ref (a 0)), (1, .int x1), (2, .int x2)]) hx hb d_M_moveRow_54 hl (k := 3) rfl rfl (by decide) rfl (fun ls hl => ?_)
          refine lv_goto (tgt := 2) hx hb d_M_moveRow_57 (by decide) ?_
          exact ih2 s2 x1 x2 (x3 + 1) H locs ls hP hD hS (lv_sub hl [1, 2, 3, 0] rfl) h
  refine lv_istore_n (lv' := [(3, .int (0 : Int32)), (0, .ref (a 0)), (1, .int x1), (2, .int x2)]) hx hb d_M_moveRow_1 rfl hl (by decide) rfl (fun ls hl => ?_)
  exact L2 N σ x1 x2 (0 : Int32) H locs ls hP hD hS (lv_sub hl [1, 2, 3, 0] rfl) h
set_option maxRecDepth 100000 in
set_option maxHeartbeats 4000000 in
theorem c_M_isBefore (l : Launch) (D : va_G) (ca : Nat → ClassId) (g : Bool) (a : Nat → Nat) (tl : va_W) (N : Nat) (σ σ' : St) (x1 : Int32) (x2 : Int32) (r : Int32) (h : f_M_isBefore N σ x1 x2 = some (r, σ')) : CtI l y_M_isBefore ws_M_isBefore rm_M_isBefore 0 0 D vCl (tyM ca) nwM [.ref (a 0), .int x1, .int x2] (wM g ca a σ ++ tl) (wM g ca a σ' ++ tl) r := by
  refine en_Z (ws' := BIG) (by decide +kernel) rfl (Nat.le_of_ble_eq_true rfl) ?_
  intro p e s m below meth c A ls R args H locs hR hx hb hr hlk hml hown hB hK hN hP hD hA hS hl
  have hl : lv_has ls 8 [(0, .ref (a 0)), (1, .int x1), (2, .int x2)] := hl
  unfold f_M_isBefore at h
  refine lv_iconst (v := (0 : Int32)) hx hb d_M_isBefore_0 (by decide) ?_
  have L2 : ∀ (n : Nat) (σ : St) (x1 : Int32) (x2 : Int32) (x3 : Int32) (H : Heap) (locs : List Loc) (ls : Array Slot), va_P D vCl (wM g ca a σ ++ tl) H → va_D A (wM g ca a σ ++ tl) → va_S A s.heap H locs → lv_has ls 8 [(0, .ref (a 0)), (1, .int x1), (2, .int x2), (3, .int x3)] → f_M_isBefore_2 N n σ x1 x2 x3 = some (r, σ') → W p l e R s m args below meth c H locs 0 0 (MQ below (qb_QI D vCl (tyM ca) (wM g ca a σ' ++ tl) A r) args s 0 0 A) (F0 m 2 ls []) := by
    intro n
    induction n with
    | zero => intro σ x1 x2 x3 H locs ls hP hD hS hl h; cases h
    | succ n ih2 =>
        intro σ x1 x2 x3 H locs ls hP hD hS hl h
        obtain ⟨K2, eK2⟩ : ∃ K, K = f_M_isBefore_2 N n := ⟨_, rfl⟩
        rw [← eK2] at ih2
        replace h : f_M_isBefore_2_b N K2 σ x1 x2 x3 = some (r, σ') := by rw [eK2]; exact h
        unfold f_M_isBefore_2_b at h
        refine lv_iload_n hx hb d_M_isBefore_2 rfl (lv_at hl 3 rfl) ?_
        refine lv_aload_n hx hb d_M_isBefore_3 rfl (lv_at hl 0 rfl) ?_
        refine Mg_0_26 hx hb hB hown (hB _ m_887) hK hP d_M_isBefore_4 ?_
        refine lv_icmp_ge (tgt := 195) hx hb d_M_isBefore_7 (by decide) (fun hc => ?_) (fun hc => ?_)
        · replace h := it_t h hc
          refine lv_iconst (v := (0 : Int32)) hx hb d_M_isBefore_195 (by decide) ?_
          exact rf_Z (w := (fun z => wM g ca a z ++ tl)) h hx hb hr hlk hK hP hD hS rfl d_M_isBefore_196
        · replace h := it_f h hc
          refine lv_bipush (v := (6 : Int32)) hx hb d_M_isBefore_10 (by decide) ?_
          refine lv_iload_n hx hb d_M_isBefore_12 rfl (lv_at hl 1 rfl) ?_
          refine lv_imul hx hb d_M_isBefore_13 ?_
          refine lv_aload_n hx hb d_M_isBefore_14 rfl (lv_at hl 0 rfl) ?_
          refine Mg_0_27 hx hb hB hown (hB _ m_888) hK hP d_M_isBefore_15 ?_
          refine lv_iload_n hx hb d_M_isBefore_18 rfl (lv_at hl 3 rfl) ?_
          obtain ⟨hi, h⟩ := ckb_some h
          refine Ma_19 hx hb hK hP hi d_M_isBefore_19 ?_
          refine lv_iadd hx hb d_M_isBefore_20 ?_
          refine lv_istore (lv' := [(4, .int (((6 : Int32) * x1) + (ga σ 16 (x3).toNatClampNeg))), (0, .ref (a 0)), (1, .int x1), (2, .int x2), (3, .int x3)]) hx hb d_M_isBefore_21 hl (by decide) rfl (fun ls hl => ?_)
          refine lv_bipush (v := (6 : Int32)) hx hb d_M_isBefore_23 (by decide) ?_
          refine lv_iload_n hx hb d_M_isBefore_25 rfl (lv_at hl 3 rfl) ?_
          refine lv_imul hx hb d_M_isBefore_26 ?_
          refine lv_aload_n hx hb d_M_isBefore_27 rfl (lv_at hl 1 rfl) ?_
          refine Mg_0_27 hx hb hB hown (hB _ m_888) hK hP d_M_isBefore_28 ?_
          refine lv_iload_n hx hb d_M_isBefore_31 rfl (lv_at hl 4 rfl) ?_
          obtain ⟨hi, h⟩ := ckb_some h
          refine Ma_19 hx hb hK hP hi d_M_isBefore_32 ?_
          refine lv_iadd hx hb d_M_isBefore_33 ?_
          refine lv_istore (lv' := [(5, .int (((6 : Int32) * x2) + (ga σ 16 (x3).toNatClampNeg))), (4, .int (((6 : Int32) * x1) + (ga σ 16 (x3).toNatClampNeg))), (0, .ref (a 0)), (1, .int x1), (2, .int x2), (3, .int x3)]) hx hb d_M_isBefore_34 hl (by decide) rfl (fun ls hl => ?_)
          refine lv_aload_n hx hb d_M_isBefore_36 rfl (lv_at hl 2 rfl) ?_
          refine Mg_0_35 hx hb hB hown (hB _ m_896) hK hP d_M_isBefore_37 ?_
          refine lv_iload hx hb d_M_isBefore_40 (lv_at hl 1 rfl) ?_
          obtain ⟨hi, h⟩ := ckb_some h
          refine Ma_22 hx hb hK hP hi d_M_isBefore_42 ?_
          have L97 : ∀ (σ : St) (x1 : Int32) (x2 : Int32) (x3 : Int32) (x4 : Int32) (x5 : Int32) (t0 : Int32) (H : Heap) (locs : List Loc) (ls : Array Slot), va_P D vCl (wM g ca a σ ++ tl) H → va_D A (wM g ca a σ ++ tl) → va_S A s.heap H locs → lv_has ls 8 [(0, .ref (a 0)), (1, .int x1), (2, .int x2), (3, .int x3), (4, .int x4), (5, .int x5)] → f_M_isBefore_97 N K2 σ x1 x2 x3 x4 x5 t0 = some (r, σ') → W p l e R s m args below meth c H locs 0 0 (MQ below (qb_QI D vCl (tyM ca) (wM g ca a σ' ++ tl) A r) args s 0 0 A) (F0 m 97 ls [.int t0]) := by
            intro σ x1 x2 x3 x4 x5 t0 H locs ls hP hD hS hl h
            unfold f_M_isBefore_97 at h
            refine lv_istore (lv' := [(6, .int t0), (0, .ref (a 0)), (1, .int x1), (2, .int x2), (3, .int x3), (4, .int x4), (5, .int x5)]) hx hb d_M_isBefore_97 hl (by decide) rfl (fun ls hl => ?_)
            refine lv_aload_n hx hb d_M_isBefore_99 rfl (lv_at hl 1 rfl) ?_
            refine Mg_0_35 hx hb hB hown (hB _ m_896) hK hP d_M_isBefore_100 ?_
            refine lv_iload hx hb d_M_isBefore_103 (lv_at hl 6 rfl) ?_
            obtain ⟨hi, h⟩ := ckb_some h
            refine Ma_22 hx hb hK hP hi d_M_isBefore_105 ?_
            have L160 : ∀ (σ : St) (x1 : Int32) (x2 : Int32) (x3 : Int32) (x6 : Int32) (t0 : Int32) (H : Heap) (locs : List Loc) (ls : Array Slot), va_P D vCl (wM g ca a σ ++ tl) H → va_D A (wM g ca a σ ++ tl) → va_S A s.heap H locs → lv_has ls 8 [(0, .ref (a 0)), (1, .int x1), (2, .int x2), (3, .int x3), (6, .int x6)] → f_M_isBefore_160 N K2 σ x1 x2 x3 x6 t0 = some (r, σ') → W p l e R s m args below meth c H locs 0 0 (MQ below (qb_QI D vCl (tyM ca) (wM g ca a σ' ++ tl) A r) args s 0 0 A) (F0 m 160 ls [.int t0]) := by
              intro σ x1 x2 x3 x6 t0 H locs ls hP hD hS hl h
              unfold f_M_isBefore_160 at h
              refine lv_istore (lv' := [(7, .int t0), (0, .ref (a 0)), (1, .int x1), (2, .int x2), (3, .int x3), (6, .int x6)]) hx hb d_M_isBefore_160 hl (by decide) rfl (fun ls hl => ?_)
              refine lv_iload hx hb d_M_isBefore_162 (lv_at hl 5 rfl) ?_
              have L172 : ∀ (σ : St) (x3 : Int32) (x6 : Int32) (x7 : Int32) (H : Heap) (locs : List Loc) (ls : Array Slot), va_P D vCl (wM g ca a σ ++ tl) H → va_D A (wM g ca a σ ++ tl) → va_S A s.heap H locs → lv_has ls 8 [(0, .ref (a 0)), (3, .int x3), (6, .int x6), (7, .int x7)] → f_M_isBefore_172 N σ x3 x6 x7 = some (r, σ') → W p l e R s m args below meth c H locs 0 0 (MQ below (qb_QI D vCl (tyM ca) (wM g ca a σ' ++ tl) A r) args s 0 0 A) (F0 m 172 ls []) := by
                intro σ x3 x6 x7 H locs ls hP hD hS hl h
                unfold f_M_isBefore_172 at h
                refine lv_aload_n hx hb d_M_isBefore_172 rfl (lv_at hl 0 rfl) ?_
                refine Mg_0_28 hx hb hB hown (hB _ m_889) hK hP d_M_isBefore_173 ?_
                refine lv_iload_n hx hb d_M_isBefore_176 rfl (lv_at hl 1 rfl) ?_
                obtain ⟨hi, h⟩ := ckb_some h
                refine Ma_20 hx hb hK hP hi d_M_isBefore_177 ?_
                refine lv_if_eq (tgt := 186) hx hb d_M_isBefore_178 (by decide) (fun hc => ?_) (fun hc => ?_)
                · replace h := it_t h hc
                  refine lv_iload hx hb d_M_isBefore_186 (lv_at hl 2 rfl) ?_
                  obtain ⟨hi, h⟩ := ckt_some h
                  exact rf_Z (w := (fun z => wM g ca a z ++ tl)) h hx hb hr hlk hK hP hD hS hi.1 d_M_isBefore_188
                · replace h := it_f h hc
                  refine lv_iload hx hb d_M_isBefore_181 (lv_at hl 3 rfl) ?_
                  refine lv_goto (tgt := 188) hx hb d_M_isBefore_183 (by decide) ?_
                  obtain ⟨hi, h⟩ := ckt_some h
                  exact rf_Z (w := (fun z => wM g ca a z ++ tl)) h hx hb hr hlk hK hP hD hS hi.1 d_M_isBefore_188
              refine lv_if_ne (tgt := 172) hx hb d_M_isBefore_164 (by decide) (fun hc => ?_) (fun hc => ?_)
              · replace h := it_f h hc
                exact L172 σ x3 x6 t0 H locs ls hP hD hS (lv_sub hl [1, 4, 5, 0] rfl) h
              · replace h := it_t h hc
                refine lv_iload hx hb d_M_isBefore_167 (lv_at hl 0 rfl) ?_
                refine lv_if_eq (tgt := 189) hx hb d_M_isBefore_169 (by decide) (fun hc => ?_) (fun hc => ?_)
                · replace h := it_t h hc
                  refine lv_iinc (v := (x3 + 1)) (lv' := [(3, .int (x3 + 1)), (7, .int t0), (0, .ref (a 0)), (1, .int x1), (2, .int x2), (6, .int x6)]) hx hb d_M_isBefore_189 hl (k := 4) rfl rfl (by decide) rfl (fun ls hl => ?_)
                  refine lv_goto (tgt := 2) hx hb d_M_isBefore_192 (by decide) ?_
                  exact ih2 σ x1 x2 (x3 + 1) H locs ls hP hD hS (lv_sub hl [2, 3, 4, 0] rfl) h
                · replace h := it_f h hc
                  exact L172 σ x3 x6 t0 H locs ls hP hD hS (lv_sub hl [1, 4, 5, 0] rfl) h
            refine lv_if_eq (tgt := 127) hx hb d_M_isBefore_106 (by decide) (fun hc => ?_) (fun hc => ?_)
            · replace h := it_t h hc
              refine lv_aload_n hx hb d_M_isBefore_127 rfl (lv_at hl 1 rfl) ?_
              refine Mg_0_35 hx hb hB hown (hB _ m_896) hK hP d_M_isBefore_128 ?_
              refine lv_iload hx hb d_M_isBefore_131 (lv_at hl 5 rfl) ?_
              obtain ⟨hi, h⟩ := ckb_some h
              refine Ma_22 hx hb hK hP hi d_M_isBefore_133 ?_
              have L159 : ∀ (σ : St) (x1 : Int32) (x2 : Int32) (x3 : Int32) (x6 : Int32) (H : Heap) (locs : List Loc) (ls : Array Slot), va_P D vCl (wM g ca a σ ++ tl) H → va_D A (wM g ca a σ ++ tl) → va_S A s.heap H locs → lv_has ls 8 [(0, .ref (a 0)), (1, .int x1), (2, .int x2), (3, .int x3), (6, .int x6)] → f_M_isBefore_159 N K2 σ x1 x2 x3 x6 = some (r, σ') → W p l e R s m args below meth c H locs 0 0 (MQ below (qb_QI D vCl (tyM ca) (wM g ca a σ' ++ tl) A r) args s 0 0 A) (F0 m 159 ls []) := by
                intro σ x1 x2 x3 x6 H locs ls hP hD hS hl h
                unfold f_M_isBefore_159 at h
                refine lv_iconst (v := (0 : Int32)) hx hb d_M_isBefore_159 (by decide) ?_
                exact L160 σ x1 x2 x3 x6 (0 : Int32) H locs ls hP hD hS (lv_sub hl [0, 1, 2, 3, 4] rfl) h
              refine lv_if_ne (tgt := 159) hx hb d_M_isBefore_134 (by decide) (fun hc => ?_) (fun hc => ?_)
              · replace h := it_f h hc
                exact L159 σ x1 x2 x3 t0 H locs ls hP hD hS (lv_sub hl [1, 2, 3, 4, 0] rfl) h
              · replace h := it_t h hc
                refine lv_aload_n hx hb d_M_isBefore_137 rfl (lv_at hl 1 rfl) ?_
                refine Mg_0_34 hx hb hB hown (hB _ m_895) hK hP d_M_isBefore_138 ?_
                refine lv_iload hx hb d_M_isBefore_141 (lv_at hl 6 rfl) ?_
                obtain ⟨hi, h⟩ := ckb_some h
                refine Ma_21 hx hb hK hP hi d_M_isBefore_143 ?_
                refine lv_aload_n hx hb d_M_isBefore_144 rfl (lv_at hl 1 rfl) ?_
                refine Mg_0_34 hx hb hB hown (hB _ m_895) hK hP d_M_isBefore_145 ?_
                refine lv_iload hx hb d_M_isBefore_148 (lv_at hl 5 rfl) ?_
                obtain ⟨hi, h⟩ := ckb_some h
                refine Ma_21 hx hb hK hP hi d_M_isBefore_150 ?_
                refine W.lcmp hx hb d_M_isBefore_151 ?_
                refine lv_if_ge (tgt := 159) hx hb d_M_isBefore_152 (by decide) (fun hc => ?_) (fun hc => ?_)
                · replace h := it_t h hc
                  exact L159 σ x1 x2 x3 t0 H locs ls hP hD hS (lv_sub hl [1, 2, 3, 4, 0] rfl) h
                · replace h := it_f h hc
                  refine lv_iconst (v := (1 : Int32)) hx hb d_M_isBefore_155 (by decide) ?_
                  refine lv_goto (tgt := 160) hx hb d_M_isBefore_156 (by decide) ?_
                  exact L160 σ x1 x2 x3 t0 (1 : Int32) H locs ls hP hD hS (lv_sub hl [1, 2, 3, 4, 0] rfl) h
            · replace h := it_f h hc
              refine lv_aload_n hx hb d_M_isBefore_109 rfl (lv_at hl 1 rfl) ?_
              refine Mg_0_35 hx hb hB hown (hB _ m_896) hK hP d_M_isBefore_110 ?_
              refine lv_iload hx hb d_M_isBefore_113 (lv_at hl 5 rfl) ?_
              obtain ⟨hi, h⟩ := ckb_some h
              refine Ma_22 hx hb hK hP hi d_M_isBefore_115 ?_
              refine lv_if_ne (tgt := 123) hx hb d_M_isBefore_116 (by decide) (fun hc => ?_) (fun hc => ?_)
              · replace h := it_f h hc
                refine lv_iconst (v := (0 : Int32)) hx hb d_M_isBefore_123 (by decide) ?_
                refine lv_goto (tgt := 160) hx hb d_M_isBefore_124 (by decide) ?_
                exact L160 σ x1 x2 x3 t0 (0 : Int32) H locs ls hP hD hS (lv_sub hl [1, 2, 3, 4, 0] rfl) h
              · replace h := it_t h hc
                refine lv_iconst (v := (1 : Int32)) hx hb d_M_isBefore_119 (by decide) ?_
                refine lv_goto (tgt := 160) hx hb d_M_isBefore_120 (by decide) ?_
                exact L160 σ x1 x2 x3 t0 (1 : Int32) H locs ls hP hD hS (lv_sub hl [1, 2, 3, 4, 0] rfl) h
          refine lv_if_eq (tgt := 64) hx hb d_M_isBefore_43 (by decide) (fun hc => ?_) (fun hc => ?_)
          · replace h := it_t h hc
            refine lv_aload_n hx hb d_M_isBefore_64 rfl (lv_at hl 2 rfl) ?_
            refine Mg_0_35 hx hb hB hown (hB _ m_896) hK hP d_M_isBefore_65 ?_
            refine lv_iload hx hb d_M_isBefore_68 (lv_at hl 0 rfl) ?_
            obtain ⟨hi, h⟩ := ckb_some h
            refine Ma_22 hx hb hK hP hi d_M_isBefore_70 ?_
            have L96 : ∀ (σ : St) (x1 : Int32) (x2 : Int32) (x3 : Int32) (x4 : Int32) (x5 : Int32) (H : Heap) (locs : List Loc) (ls : Array Slot), va_P D vCl (wM g ca a σ ++ tl) H → va_D A (wM g ca a σ ++ tl) → va_S A s.heap H locs → lv_has ls 8 [(0, .ref (a 0)), (1, .int x1), (2, .int x2), (3, .int x3), (4, .int x4), (5, .int x5)] → f_M_isBefore_96 N K2 σ x1 x2 x3 x4 x5 = some (r, σ') → W p l e R s m args below meth c H locs 0 0 (MQ below (qb_QI D vCl (tyM ca) (wM g ca a σ' ++ tl) A r) args s 0 0 A) (F0 m 96 ls []) := by
              intro σ x1 x2 x3 x4 x5 H locs ls hP hD hS hl h
              unfold f_M_isBefore_96 at h
              refine lv_iconst (v := (0 : Int32)) hx hb d_M_isBefore_96 (by decide) ?_
              exact L97 σ x1 x2 x3 x4 x5 (0 : Int32) H locs ls hP hD hS (lv_sub hl [0, 1, 2, 3, 4, 5] rfl) h
            refine lv_if_ne (tgt := 96) hx hb d_M_isBefore_71 (by decide) (fun hc => ?_) (fun hc => ?_)
            · replace h := it_f h hc
              exact L96 σ x1 x2 x3 (((6 : Int32) * x1) + (ga σ 16 (x3).toNatClampNeg)) (((6 : Int32) * x2) + (ga σ 16 (x3).toNatClampNeg)) H locs ls hP hD hS (lv_sub hl [2, 3, 4, 5, 1, 0] rfl) h
            · replace h := it_t h hc
              refine lv_aload_n hx hb d_M_isBefore_74 rfl (lv_at hl 2 rfl) ?_
              refine Mg_0_34 hx hb hB hown (hB _ m_895) hK hP d_M_isBefore_75 ?_
              refine lv_iload hx hb d_M_isBefore_78 (lv_at hl 1 rfl) ?_
              obtain ⟨hi, h⟩ := ckb_some h
              refine Ma_21 hx hb hK hP hi d_M_isBefore_80 ?_
              refine lv_aload_n hx hb d_M_isBefore_81 rfl (lv_at hl 2 rfl) ?_
              refine Mg_0_34 hx hb hB hown (hB _ m_895) hK hP d_M_isBefore_82 ?_
              refine lv_iload hx hb d_M_isBefore_85 (lv_at hl 0 rfl) ?_
              obtain ⟨hi, h⟩ := ckb_some h
              refine Ma_21 hx hb hK hP hi d_M_isBefore_87 ?_
              refine W.lcmp hx hb d_M_isBefore_88 ?_
              refine lv_if_ge (tgt := 96) hx hb d_M_isBefore_89 (by decide) (fun hc => ?_) (fun hc => ?_)
              · replace h := it_t h hc
                exact L96 σ x1 x2 x3 (((6 : Int32) * x1) + (ga σ 16 (x3).toNatClampNeg)) (((6 : Int32) * x2) + (ga σ 16 (x3).toNatClampNeg)) H locs ls hP hD hS (lv_sub hl [2, 3, 4, 5, 1, 0] rfl) h
              · replace h := it_f h hc
                refine lv_iconst (v := (1 : Int32)) hx hb d_M_isBefore_92 (by decide) ?_
                refine lv_goto (tgt := 97) hx hb d_M_isBefore_93 (by decide) ?_
                exact L97 σ x1 x2 x3 (((6 : Int32) * x1) + (ga σ 16 (x3).toNatClampNeg)) (((6 : Int32) * x2) + (ga σ 16 (x3).toNatClampNeg)) (1 : Int32) H locs ls hP hD hS (lv_sub hl [2, 3, 4, 5, 1, 0] rfl) h
          · replace h := it_f h hc
            refine lv_aload_n hx hb d_M_isBefore_46 rfl (lv_at hl 2 rfl) ?_
            refine Mg_0_35 hx hb hB hown (hB _ m_896) hK hP d_M_isBefore_47 ?_
            refine lv_iload hx hb d_M_isBefore_50 (lv_at hl 0 rfl) ?_
            obtain ⟨hi, h⟩ := ckb_some h
            refine Ma_22 hx hb hK hP hi d_M_isBefore_52 ?_
            refine lv_if_ne (tgt := 60) hx hb d_M_isBefore_53 (by decide) (fun hc => ?_) (fun hc => ?_)
            · replace h := it_f h hc
              refine lv_iconst (v := (0 : Int32)) hx hb d_M_isBefore_60 (by decide) ?_
              refine lv_goto (tgt := 97) hx hb d_M_isBefore_61 (by decide) ?_
              exact L97 σ x1 x2 x3 (((6 : Int32) * x1) + (ga σ 16 (x3).toNatClampNeg)) (((6 : Int32) * x2) + (ga σ 16 (x3).toNatClampNeg)) (0 : Int32) H locs ls hP hD hS (lv_sub hl [2, 3, 4, 5, 1, 0] rfl) h
            · replace h := it_t h hc
              refine lv_iconst (v := (1 : Int32)) hx hb d_M_isBefore_56 (by decide) ?_
              refine lv_goto (tgt := 97) hx hb d_M_isBefore_57 (by decide) ?_
              exact L97 σ x1 x2 x3 (((6 : Int32) * x1) + (ga σ 16 (x3).toNatClampNeg)) (((6 : Int32) * x2) + (ga σ 16 (x3).toNatClampNeg)) (1 : Int32) H locs ls hP hD hS (lv_sub hl [2, 3, 4, 5, 1, 0] rfl) h
  refine lv_istore_n (lv' := [(3, .int (0 : Int32)), (0, .ref (a 0)), (1, .int x1), (2, .int x2)]) hx hb d_M_isBefore_1 rfl hl (by decide) rfl (fun ls hl => ?_)
  exact L2 N σ x1 x2 (0 : Int32) H locs ls hP hD hS (lv_sub hl [1, 2, 3, 0] rfl) h
set_option maxRecDepth 100000 in
set_option maxHeartbeats 4000000 in
theorem c_M_sort (l : Launch) (D : va_G) (ca : Nat → ClassId) (g : Bool) (a : Nat → Nat) (tl : va_W) (N : Nat) (σ σ' : St) (h : f_M_sort N σ = some ((), σ')) : CtV l y_M_sort ws_M_sort rm_M_sort 0 0 D vCl (tyM ca) nwM [.ref (a 0)] (wM g ca a σ ++ tl) (wM g ca a σ' ++ tl) := by
  refine en_V (ws' := BIG) (by decide +kernel) rfl (Nat.le_of_ble_eq_true rfl) ?_
  intro p e s m below meth c A ls R args H locs hR hx hb hr hlk hml hown hB hK hN hP hD hA hS hl
  have hl : lv_has ls 3 [(0, .ref (a 0))] := hl
  unfold f_M_sort at h
  refine lv_iconst (v := (1 : Int32)) hx hb d_M_sort_0 (by decide) ?_
  have L2 : ∀ (n : Nat) (σ : St) (x1 : Int32) (H : Heap) (locs : List Loc) (ls : Array Slot), va_P D vCl (wM g ca a σ ++ tl) H → va_D A (wM g ca a σ ++ tl) → va_S A s.heap H locs → lv_has ls 3 [(0, .ref (a 0)), (1, .int x1)] → f_M_sort_2 N n σ x1 = some ((), σ') → W p l e R s m args below meth c H locs 0 0 (MQ below (qb_QV D vCl (tyM ca) (wM g ca a σ' ++ tl) A) args s 0 0 A) (F0 m 2 ls []) := by
    intro n
    induction n with
    | zero => intro σ x1 H locs ls hP hD hS hl h; cases h
    | succ n ih2 =>
        intro σ x1 H locs ls hP hD hS hl h
        obtain ⟨K2, eK2⟩ : ∃ K, K = f_M_sort_2 N n := ⟨_, rfl⟩
        rw [← eK2] at ih2
        replace h : f_M_sort_2_b N K2 σ x1 = some ((), σ') := by rw [eK2]; exact h
        unfold f_M_sort_2_b at h
        refine lv_iload_n hx hb d_M_sort_2 rfl (lv_at hl 1 rfl) ?_
        refine lv_aload_n hx hb d_M_sort_3 rfl (lv_at hl 0 rfl) ?_
        refine Mg_0_32 hx hb hB hown (hB _ m_893) hK hP d_M_sort_4 ?_
        refine lv_icmp_ge (tgt := 65) hx hb d_M_sort_7 (by decide) (fun hc => ?_) (fun hc => ?_)
        · replace h := it_t h hc
          exact rf_V (w := (fun z => wM g ca a z ++ tl)) h hx hb hr hlk hK hP hD hS d_M_sort_65
        · replace h := it_f h hc
          refine lv_aload_n hx hb d_M_sort_10 rfl (lv_at hl 0 rfl) ?_
          refine lv_sipush (v := (200 : Int32)) hx hb d_M_sort_11 (by decide) ?_
          refine lv_iload_n hx hb d_M_sort_14 rfl (lv_at hl 1 rfl) ?_
          obtain ⟨r1, s2, hr1, h⟩ := bd_some h
          cases r1
          refine go_VV (rest := []) ⟨hx, hb, hml, hown, hB⟩ nwM_ok (c_M_moveRow l D ca g a tl N σ s2 (200 : Int32) x1 hr1) (cwx_V hB m_1241 kw_M_moveRow ⟨by rw [hR]; decide, by rw [hR]; decide⟩ rfl rfl) (va_recv hK hP (ci := 1) (q0 := 0) rfl rfl) hN hK hP hD hS hA rfl hl.1 rfl (Nat.le_of_ble_eq_true rfl) d_M_sort_15 ⟨by rw [hR]; exact Nat.le_of_ble_eq_true rfl, by rw [hR]; exact Nat.le_of_ble_eq_true rfl⟩ (fun H locs hP hD hS => ?_)
          refine lv_iload_n hx hb d_M_sort_18 rfl (lv_at hl 1 rfl) ?_
          have L20 : ∀ (n : Nat) (σ : St) (x1 : Int32) (x2 : Int32) (H : Heap) (locs : List Loc) (ls : Array Slot), va_P D vCl (wM g ca a σ ++ tl) H → va_D A (wM g ca a σ ++ tl) → va_S A s.heap H locs → lv_has ls 3 [(0, .ref (a 0)), (1, .int x1), (2, .int x2)] → f_M_sort_20 N K2 n σ x1 x2 = some ((), σ') → W p l e R s m args below meth c H locs 0 0 (MQ below (qb_QV D vCl (tyM ca) (wM g ca a σ' ++ tl) A) args s 0 0 A) (F0 m 20 ls []) := by
            intro n
            induction n with
            | zero => intro σ x1 x2 H locs ls hP hD hS hl h; cases h
            | succ n ih20 =>
                intro σ x1 x2 H locs ls hP hD hS hl h
                obtain ⟨K20, eK20⟩ : ∃ K, K = f_M_sort_20 N K2 n := ⟨_, rfl⟩
                rw [← eK20] at ih20
                replace h : f_M_sort_20_b N K2 K20 σ x1 x2 = some ((), σ') := by rw [eK20]; exact h
                unfold f_M_sort_20_b at h
                refine lv_iload_n hx hb d_M_sort_20 rfl (lv_at hl 2 rfl) ?_
                have L51 : ∀ (σ : St) (x1 : Int32) (x2 : Int32) (H : Heap) (locs : List Loc) (ls : Array Slot), va_P D vCl (wM g ca a σ ++ tl) H → va_D A (wM g ca a σ ++ tl) → va_S A s.heap H locs → lv_has ls 3 [(0, .ref (a 0)), (1, .int x1), (2, .int x2)] → f_M_sort_51 N K2 σ x1 x2 = some ((), σ') → W p l e R s m args below meth c H locs 0 0 (MQ below (qb_QV D vCl (tyM ca) (wM g ca a σ' ++ tl) A) args s 0 0 A) (F0 m 51 ls []) := by
                  intro σ x1 x2 H locs ls hP hD hS hl h
                  unfold f_M_sort_51 at h
                  refine lv_aload_n hx hb d_M_sort_51 rfl (lv_at hl 0 rfl) ?_
                  refine lv_iload_n hx hb d_M_sort_52 rfl (lv_at hl 2 rfl) ?_
                  refine lv_sipush (v := (200 : Int32)) hx hb d_M_sort_53 (by decide) ?_
                  obtain ⟨r3, s4, hr3, h⟩ := bd_some h
                  cases r3
                  refine go_VV (rest := []) ⟨hx, hb, hml, hown, hB⟩ nwM_ok (c_M_moveRow l D ca g a tl N σ s4 x2 (200 : Int32) hr3) (cwx_V hB m_1241 kw_M_moveRow ⟨by rw [hR]; decide, by rw [hR]; decide⟩ rfl rfl) (va_recv hK hP (ci := 1) (q0 := 0) rfl rfl) hN hK hP hD hS hA rfl hl.1 rfl (Nat.le_of_ble_eq_true rfl) d_M_sort_56 ⟨by rw [hR]; exact Nat.le_of_ble_eq_true rfl, by rw [hR]; exact Nat.le_of_ble_eq_true rfl⟩ (fun H locs hP hD hS => ?_)
                  refine lv_iinc (v := (x1 + 1)) (lv' := [(1, .int (x1 + 1)), (0, .ref (a 0)), (2, .int x2)]) hx hb d_M_sort_59 hl (k := 1) rfl rfl (by decide) rfl (fun ls hl => ?_)
                  refine lv_goto (tgt := 2) hx hb d_M_sort_62 (by decide) ?_
                  exact ih2 s4 (x1 + 1) H locs ls hP hD hS (lv_sub hl [1, 0] rfl) h
                refine lv_if_le (tgt := 51) hx hb d_M_sort_21 (by decide) (fun hc => ?_) (fun hc => ?_)
                · replace h := it_t h hc
                  exact L51 σ x1 x2 H locs ls hP hD hS (lv_sub hl [0, 1, 2] rfl) h
                · replace h := it_f h hc
                  refine lv_aload_n hx hb d_M_sort_24 rfl (lv_at hl 0 rfl) ?_
                  refine lv_sipush (v := (200 : Int32)) hx hb d_M_sort_25 (by decide) ?_
                  refine lv_iload_n hx hb d_M_sort_28 rfl (lv_at hl 2 rfl) ?_
                  refine lv_iconst (v := (1 : Int32)) hx hb d_M_sort_29 (by decide) ?_
                  refine lv_isub hx hb d_M_sort_30 ?_
                  obtain ⟨r5, s6, hr5, h⟩ := bd_some h
                  refine go_VI (rest := []) ⟨hx, hb, hml, hown, hB⟩ nwM_ok (c_M_isBefore l D ca g a tl N σ s6 (200 : Int32) (x2 - (1 : Int32)) r5 hr5) (cwx_V hB m_1249 kw_M_isBefore ⟨by rw [hR]; decide, by rw [hR]; decide⟩ rfl rfl) (va_recv hK hP (ci := 1) (q0 := 0) rfl rfl) hN hK hP hD hS hA rfl hl.1 rfl (Nat.le_of_ble_eq_true rfl) d_M_sort_31 ⟨by rw [hR]; exact Nat.le_of_ble_eq_true rfl, by rw [hR]; exact Nat.le_of_ble_eq_true rfl⟩ (fun H locs hP hD hS => ?_)
                  refine lv_if_eq (tgt := 51) hx hb d_M_sort_34 (by decide) (fun hc => ?_) (fun hc => ?_)
                  · replace h := it_t h hc
                    exact L51 s6 x1 x2 H locs ls hP hD hS (lv_sub hl [0, 1, 2] rfl) h
                  · replace h := it_f h hc
                    refine lv_aload_n hx hb d_M_sort_37 rfl (lv_at hl 0 rfl) ?_
                    refine lv_iload_n hx hb d_M_sort_38 rfl (lv_at hl 2 rfl) ?_
                    refine lv_iload_n hx hb d_M_sort_39 rfl (lv_at hl 2 rfl) ?_
                    refine lv_iconst (v := (1 : Int32)) hx hb d_M_sort_40 (by decide) ?_
                    refine lv_isub hx hb d_M_sort_41 ?_
                    obtain ⟨r7, s8, hr7, h⟩ := bd_some h
                    cases r7
                    refine go_VV (rest := []) ⟨hx, hb, hml, hown, hB⟩ nwM_ok (c_M_moveRow l D ca g a tl N s6 s8 x2 (x2 - (1 : Int32)) hr7) (cwx_V hB m_1241 kw_M_moveRow ⟨by rw [hR]; decide, by rw [hR]; decide⟩ rfl rfl) (va_recv hK hP (ci := 1) (q0 := 0) rfl rfl) hN hK hP hD hS hA rfl hl.1 rfl (Nat.le_of_ble_eq_true rfl) d_M_sort_42 ⟨by rw [hR]; exact Nat.le_of_ble_eq_true rfl, by rw [hR]; exact Nat.le_of_ble_eq_true rfl⟩ (fun H locs hP hD hS => ?_)
                    refine lv_iinc (v := (x2 + Int32.ofInt (-1))) (lv' := [(2, .int (x2 + Int32.ofInt (-1))), (0, .ref (a 0)), (1, .int x1)]) hx hb d_M_sort_45 hl (k := 2) rfl rfl (by decide) rfl (fun ls hl => ?_)
                    refine lv_goto (tgt := 20) hx hb d_M_sort_48 (by decide) ?_
                    exact ih20 s8 x1 (x2 + Int32.ofInt (-1)) H locs ls hP hD hS (lv_sub hl [1, 2, 0] rfl) h
          refine lv_istore_n (lv' := [(2, .int x1), (0, .ref (a 0)), (1, .int x1)]) hx hb d_M_sort_19 rfl hl (by decide) rfl (fun ls hl => ?_)
          exact L20 N s2 x1 x1 H locs ls hP hD hS (lv_sub hl [1, 2, 0] rfl) h
  refine lv_istore_n (lv' := [(1, .int (1 : Int32)), (0, .ref (a 0))]) hx hb d_M_sort_1 rfl hl (by decide) rfl (fun ls hl => ?_)
  exact L2 N σ (1 : Int32) H locs ls hP hD hS (lv_sub hl [1, 0] rfl) h
set_option maxRecDepth 100000 in
set_option maxHeartbeats 4000000 in
theorem c_M_cut (l : Launch) (D : va_G) (ca : Nat → ClassId) (g : Bool) (a : Nat → Nat) (tl : va_W) (N : Nat) (σ σ' : St) (h : f_M_cut N σ = some ((), σ')) : CtV l y_M_cut ws_M_cut rm_M_cut 0 0 D vCl (tyM ca) nwM [.ref (a 0)] (wM g ca a σ ++ tl) (wM g ca a σ' ++ tl) := by
  refine en_V (ws' := BIG) (by decide +kernel) rfl (Nat.le_of_ble_eq_true rfl) ?_
  intro p e s m below meth c A ls R args H locs hR hx hb hr hlk hml hown hB hK hN hP hD hA hS hl
  have hl : lv_has ls 3 [(0, .ref (a 0))] := hl
  unfold f_M_cut at h
  refine lv_iconst (v := (0 : Int32)) hx hb d_M_cut_0 (by decide) ?_
  refine lv_istore_n (lv' := [(1, .int (0 : Int32)), (0, .ref (a 0))]) hx hb d_M_cut_1 rfl hl (by decide) rfl (fun ls hl => ?_)
  refine lv_aload_n hx hb d_M_cut_2 rfl (lv_at hl 1 rfl) ?_
  refine Mg_0_31 hx hb hB hown (hB _ m_892) hK hP d_M_cut_3 ?_
  have L7 : ∀ (n : Nat) (σ : St) (x1 : Int32) (x2 : Int32) (H : Heap) (locs : List Loc) (ls : Array Slot), va_P D vCl (wM g ca a σ ++ tl) H → va_D A (wM g ca a σ ++ tl) → va_S A s.heap H locs → lv_has ls 3 [(0, .ref (a 0)), (1, .int x1), (2, .int x2)] → f_M_cut_7 N n σ x1 x2 = some ((), σ') → W p l e R s m args below meth c H locs 0 0 (MQ below (qb_QV D vCl (tyM ca) (wM g ca a σ' ++ tl) A) args s 0 0 A) (F0 m 7 ls []) := by
    intro n
    induction n with
    | zero => intro σ x1 x2 H locs ls hP hD hS hl h; cases h
    | succ n ih7 =>
        intro σ x1 x2 H locs ls hP hD hS hl h
        obtain ⟨K7, eK7⟩ : ∃ K, K = f_M_cut_7 N n := ⟨_, rfl⟩
        rw [← eK7] at ih7
        replace h : f_M_cut_7_b N K7 σ x1 x2 = some ((), σ') := by rw [eK7]; exact h
        unfold f_M_cut_7_b at h
        refine lv_iload_n hx hb d_M_cut_7 rfl (lv_at hl 2 rfl) ?_
        refine lv_aload_n hx hb d_M_cut_8 rfl (lv_at hl 0 rfl) ?_
        refine Mg_0_32 hx hb hB hown (hB _ m_893) hK hP d_M_cut_9 ?_
        refine lv_icmp_ge (tgt := 38) hx hb d_M_cut_12 (by decide) (fun hc => ?_) (fun hc => ?_)
        · replace h := it_t h hc
          refine lv_aload_n hx hb d_M_cut_38 rfl (lv_at hl 0 rfl) ?_
          refine lv_iload_n hx hb d_M_cut_39 rfl (lv_at hl 1 rfl) ?_
          obtain ⟨s1, es1, h⟩ := nm_some h
          refine Mp_0_32 es1 hx hb hB hown (hB _ m_893) hK hP hD hS d_M_cut_40 (fun H locs hP hD hS => ?_)
          exact rf_V (w := (fun z => wM g ca a z ++ tl)) h hx hb hr hlk hK hP hD hS d_M_cut_43
        · replace h := it_f h hc
          refine lv_iload_n hx hb d_M_cut_15 rfl (lv_at hl 1 rfl) ?_
          refine lv_aload_n hx hb d_M_cut_16 rfl (lv_at hl 0 rfl) ?_
          refine Mg_0_30 hx hb hB hown (hB _ m_891) hK hP d_M_cut_17 ?_
          refine lv_icmp_ge (tgt := 38) hx hb d_M_cut_20 (by decide) (fun hc => ?_) (fun hc => ?_)
          · replace h := it_t h hc
            refine lv_aload_n hx hb d_M_cut_38 rfl (lv_at hl 0 rfl) ?_
            refine lv_iload_n hx hb d_M_cut_39 rfl (lv_at hl 1 rfl) ?_
            obtain ⟨s2, es2, h⟩ := nm_some h
            refine Mp_0_32 es2 hx hb hB hown (hB _ m_893) hK hP hD hS d_M_cut_40 (fun H locs hP hD hS => ?_)
            exact rf_V (w := (fun z => wM g ca a z ++ tl)) h hx hb hr hlk hK hP hD hS d_M_cut_43
          · replace h := it_f h hc
            refine lv_aload_n hx hb d_M_cut_23 rfl (lv_at hl 0 rfl) ?_
            refine lv_iload_n hx hb d_M_cut_24 rfl (lv_at hl 1 rfl) ?_
            refine lv_iload_n hx hb d_M_cut_25 rfl (lv_at hl 2 rfl) ?_
            obtain ⟨r3, s4, hr3, h⟩ := bd_some h
            cases r3
            refine go_VV (rest := []) ⟨hx, hb, hml, hown, hB⟩ nwM_ok (c_M_moveRow l D ca g a tl N σ s4 x1 x2 hr3) (cwx_V hB m_1241 kw_M_moveRow ⟨by rw [hR]; decide, by rw [hR]; decide⟩ rfl rfl) (va_recv hK hP (ci := 1) (q0 := 0) rfl rfl) hN hK hP hD hS hA rfl hl.1 rfl (Nat.le_of_ble_eq_true rfl) d_M_cut_26 ⟨by rw [hR]; exact Nat.le_of_ble_eq_true rfl, by rw [hR]; exact Nat.le_of_ble_eq_true rfl⟩ (fun H locs hP hD hS => ?_)
            refine lv_iinc (v := (x1 + 1)) (lv' := [(1, .int (x1 + 1)), (0, .ref (a 0)), (2, .int x2)]) hx hb d_M_cut_29 hl (k := 1) rfl rfl (by decide) rfl (fun ls hl => ?_)
            refine lv_iinc (v := (x2 + 1)) (lv' := [(2, .int (x2 + 1)), (1, .int (x1 + 1)), (0, .ref (a 0))]) hx hb d_M_cut_32 hl (k := 2) rfl rfl (by decide) rfl (fun ls hl => ?_)
            refine lv_goto (tgt := 7) hx hb d_M_cut_35 (by decide) ?_
            exact ih7 s4 (x1 + 1) (x2 + 1) H locs ls hP hD hS (lv_sub hl [2, 1, 0] rfl) h
  refine lv_istore_n (lv' := [(2, .int (gi σ 11)), (1, .int (0 : Int32)), (0, .ref (a 0))]) hx hb d_M_cut_6 rfl hl (by decide) rfl (fun ls hl => ?_)
  exact L7 N σ (0 : Int32) (gi σ 11) H locs ls hP hD hS (lv_sub hl [2, 1, 0] rfl) h
set_option maxRecDepth 100000 in
set_option maxHeartbeats 4000000 in
theorem c_M_isSameRow (l : Launch) (D : va_G) (ca : Nat → ClassId) (g : Bool) (a : Nat → Nat) (tl : va_W) (N : Nat) (σ σ' : St) (x1 : Int32) (x2 : Int32) (r : Int32) (h : f_M_isSameRow N σ x1 x2 = some (r, σ')) : CtI l y_M_isSameRow ws_M_isSameRow rm_M_isSameRow 0 0 D vCl (tyM ca) nwM [.ref (a 0), .int x1, .int x2] (wM g ca a σ ++ tl) (wM g ca a σ' ++ tl) r := by
  refine en_Z (ws' := BIG) (by decide +kernel) rfl (Nat.le_of_ble_eq_true rfl) ?_
  intro p e s m below meth c A ls R args H locs hR hx hb hr hlk hml hown hB hK hN hP hD hA hS hl
  have hl : lv_has ls 6 [(0, .ref (a 0)), (1, .int x1), (2, .int x2)] := hl
  unfold f_M_isSameRow at h
  refine lv_iconst (v := (1 : Int32)) hx hb d_M_isSameRow_0 (by decide) ?_
  refine lv_istore_n (lv' := [(3, .int (1 : Int32)), (0, .ref (a 0)), (1, .int x1), (2, .int x2)]) hx hb d_M_isSameRow_1 rfl hl (by decide) rfl (fun ls hl => ?_)
  refine lv_iconst (v := (0 : Int32)) hx hb d_M_isSameRow_2 (by decide) ?_
  have L5 : ∀ (n : Nat) (σ : St) (x1 : Int32) (x2 : Int32) (x3 : Int32) (x4 : Int32) (H : Heap) (locs : List Loc) (ls : Array Slot), va_P D vCl (wM g ca a σ ++ tl) H → va_D A (wM g ca a σ ++ tl) → va_S A s.heap H locs → lv_has ls 6 [(0, .ref (a 0)), (1, .int x1), (2, .int x2), (3, .int x3), (4, .int x4)] → f_M_isSameRow_5 N n σ x1 x2 x3 x4 = some (r, σ') → W p l e R s m args below meth c H locs 0 0 (MQ below (qb_QI D vCl (tyM ca) (wM g ca a σ' ++ tl) A r) args s 0 0 A) (F0 m 5 ls []) := by
    intro n
    induction n with
    | zero => intro σ x1 x2 x3 x4 H locs ls hP hD hS hl h; cases h
    | succ n ih5 =>
        intro σ x1 x2 x3 x4 H locs ls hP hD hS hl h
        obtain ⟨K5, eK5⟩ : ∃ K, K = f_M_isSameRow_5 N n := ⟨_, rfl⟩
        rw [← eK5] at ih5
        replace h : f_M_isSameRow_5_b N K5 σ x1 x2 x3 x4 = some (r, σ') := by rw [eK5]; exact h
        unfold f_M_isSameRow_5_b at h
        refine lv_iload hx hb d_M_isSameRow_5 (lv_at hl 4 rfl) ?_
        refine lv_aload_n hx hb d_M_isSameRow_7 rfl (lv_at hl 0 rfl) ?_
        refine Mg_0_24 hx hb hB hown (hB _ m_885) hK hP d_M_isSameRow_8 ?_
        refine lv_icmp_ge (tgt := 94) hx hb d_M_isSameRow_11 (by decide) (fun hc => ?_) (fun hc => ?_)
        · replace h := it_t h hc
          refine lv_iload_n hx hb d_M_isSameRow_94 rfl (lv_at hl 3 rfl) ?_
          obtain ⟨hi, h⟩ := ckt_some h
          exact rf_Z (w := (fun z => wM g ca a z ++ tl)) h hx hb hr hlk hK hP hD hS hi.1 d_M_isSameRow_95
        · replace h := it_f h hc
          refine lv_aload_n hx hb d_M_isSameRow_14 rfl (lv_at hl 0 rfl) ?_
          refine Mg_0_35 hx hb hB hown (hB _ m_896) hK hP d_M_isSameRow_15 ?_
          refine lv_bipush (v := (6 : Int32)) hx hb d_M_isSameRow_18 (by decide) ?_
          refine lv_iload_n hx hb d_M_isSameRow_20 rfl (lv_at hl 1 rfl) ?_
          refine lv_imul hx hb d_M_isSameRow_21 ?_
          refine lv_iload hx hb d_M_isSameRow_22 (lv_at hl 4 rfl) ?_
          refine lv_iadd hx hb d_M_isSameRow_24 ?_
          obtain ⟨hi, h⟩ := ckb_some h
          refine Ma_22 hx hb hK hP hi d_M_isSameRow_25 ?_
          refine lv_istore (lv' := [(5, .int (ga σ 18 ((((6 : Int32) * x1) + x4)).toNatClampNeg)), (0, .ref (a 0)), (1, .int x1), (2, .int x2), (3, .int x3), (4, .int x4)]) hx hb d_M_isSameRow_26 hl (by decide) rfl (fun ls hl => ?_)
          refine lv_iload_n hx hb d_M_isSameRow_28 rfl (lv_at hl 4 rfl) ?_
          refine lv_if_eq (tgt := 86) hx hb d_M_isSameRow_29 (by decide) (fun hc => ?_) (fun hc => ?_)
          · replace h := it_t h hc
            refine lv_iconst (v := (0 : Int32)) hx hb d_M_isSameRow_86 (by decide) ?_
            refine lv_istore_n (lv' := [(3, .int (0 : Int32)), (5, .int (ga σ 18 ((((6 : Int32) * x1) + x4)).toNatClampNeg)), (0, .ref (a 0)), (1, .int x1), (2, .int x2), (4, .int x4)]) hx hb d_M_isSameRow_87 rfl hl (by decide) rfl (fun ls hl => ?_)
            refine lv_iinc (v := (x4 + 1)) (lv' := [(4, .int (x4 + 1)), (3, .int (0 : Int32)), (5, .int (ga σ 18 ((((6 : Int32) * x1) + x4)).toNatClampNeg)), (0, .ref (a 0)), (1, .int x1), (2, .int x2)]) hx hb d_M_isSameRow_88 hl (k := 5) rfl rfl (by decide) rfl (fun ls hl => ?_)
            refine lv_goto (tgt := 5) hx hb d_M_isSameRow_91 (by decide) ?_
            exact ih5 σ x1 x2 (0 : Int32) (x4 + 1) H locs ls hP hD hS (lv_sub hl [3, 4, 5, 1, 0] rfl) h
          · replace h := it_f h hc
            refine lv_iload hx hb d_M_isSameRow_32 (lv_at hl 0 rfl) ?_
            refine lv_aload_n hx hb d_M_isSameRow_34 rfl (lv_at hl 1 rfl) ?_
            refine Mg_0_35 hx hb hB hown (hB _ m_896) hK hP d_M_isSameRow_35 ?_
            refine lv_bipush (v := (6 : Int32)) hx hb d_M_isSameRow_38 (by decide) ?_
            refine lv_iload_n hx hb d_M_isSameRow_40 rfl (lv_at hl 3 rfl) ?_
            refine lv_imul hx hb d_M_isSameRow_41 ?_
            refine lv_iload hx hb d_M_isSameRow_42 (lv_at hl 5 rfl) ?_
            refine lv_iadd hx hb d_M_isSameRow_44 ?_
            obtain ⟨hi, h⟩ := ckb_some h
            refine Ma_22 hx hb hK hP hi d_M_isSameRow_45 ?_
            refine lv_icmp_ne (tgt := 86) hx hb d_M_isSameRow_46 (by decide) (fun hc => ?_) (fun hc => ?_)
            · replace h := it_f h hc
              refine lv_iconst (v := (0 : Int32)) hx hb d_M_isSameRow_86 (by decide) ?_
              refine lv_istore_n (lv' := [(3, .int (0 : Int32)), (5, .int (ga σ 18 ((((6 : Int32) * x1) + x4)).toNatClampNeg)), (0, .ref (a 0)), (1, .int x1), (2, .int x2), (4, .int x4)]) hx hb d_M_isSameRow_87 rfl hl (by decide) rfl (fun ls hl => ?_)
              refine lv_iinc (v := (x4 + 1)) (lv' := [(4, .int (x4 + 1)), (3, .int (0 : Int32)), (5, .int (ga σ 18 ((((6 : Int32) * x1) + x4)).toNatClampNeg)), (0, .ref (a 0)), (1, .int x1), (2, .int x2)]) hx hb d_M_isSameRow_88 hl (k := 5) rfl rfl (by decide) rfl (fun ls hl => ?_)
              refine lv_goto (tgt := 5) hx hb d_M_isSameRow_91 (by decide) ?_
              exact ih5 σ x1 x2 (0 : Int32) (x4 + 1) H locs ls hP hD hS (lv_sub hl [3, 4, 5, 1, 0] rfl) h
            · replace h := it_t h hc
              refine lv_iload hx hb d_M_isSameRow_49 (lv_at hl 0 rfl) ?_
              refine lv_if_ne (tgt := 82) hx hb d_M_isSameRow_51 (by decide) (fun hc => ?_) (fun hc => ?_)
              · replace h := it_f h hc
                refine lv_iconst (v := (1 : Int32)) hx hb d_M_isSameRow_82 (by decide) ?_
                refine lv_goto (tgt := 87) hx hb d_M_isSameRow_83 (by decide) ?_
                refine lv_istore_n (lv' := [(3, .int (1 : Int32)), (5, .int (ga σ 18 ((((6 : Int32) * x1) + x4)).toNatClampNeg)), (0, .ref (a 0)), (1, .int x1), (2, .int x2), (4, .int x4)]) hx hb d_M_isSameRow_87 rfl hl (by decide) rfl (fun ls hl => ?_)
                refine lv_iinc (v := (x4 + 1)) (lv' := [(4, .int (x4 + 1)), (3, .int (1 : Int32)), (5, .int (ga σ 18 ((((6 : Int32) * x1) + x4)).toNatClampNeg)), (0, .ref (a 0)), (1, .int x1), (2, .int x2)]) hx hb d_M_isSameRow_88 hl (k := 5) rfl rfl (by decide) rfl (fun ls hl => ?_)
                refine lv_goto (tgt := 5) hx hb d_M_isSameRow_91 (by decide) ?_
                exact ih5 σ x1 x2 (1 : Int32) (x4 + 1) H locs ls hP hD hS (lv_sub hl [3, 4, 5, 1, 0] rfl) h
              · replace h := it_t h hc
                refine lv_aload_n hx hb d_M_isSameRow_54 rfl (lv_at hl 1 rfl) ?_
                refine Mg_0_34 hx hb hB hown (hB _ m_895) hK hP d_M_isSameRow_55 ?_
                refine lv_bipush (v := (6 : Int32)) hx hb d_M_isSameRow_58 (by decide) ?_
                refine lv_iload_n hx hb d_M_isSameRow_60 rfl (lv_at hl 2 rfl) ?_
                refine lv_imul hx hb d_M_isSameRow_61 ?_
                refine lv_iload hx hb d_M_isSameRow_62 (lv_at hl 5 rfl) ?_
                refine lv_iadd hx hb d_M_isSameRow_64 ?_
                obtain ⟨hi, h⟩ := ckb_some h
                refine Ma_21 hx hb hK hP hi d_M_isSameRow_65 ?_
                refine lv_aload_n hx hb d_M_isSameRow_66 rfl (lv_at hl 1 rfl) ?_
                refine Mg_0_34 hx hb hB hown (hB _ m_895) hK hP d_M_isSameRow_67 ?_
                refine lv_bipush (v := (6 : Int32)) hx hb d_M_isSameRow_70 (by decide) ?_
                refine lv_iload_n hx hb d_M_isSameRow_72 rfl (lv_at hl 3 rfl) ?_
                refine lv_imul hx hb d_M_isSameRow_73 ?_
                refine lv_iload hx hb d_M_isSameRow_74 (lv_at hl 5 rfl) ?_
                refine lv_iadd hx hb d_M_isSameRow_76 ?_
                obtain ⟨hi, h⟩ := ckb_some h
                refine Ma_21 hx hb hK hP hi d_M_isSameRow_77 ?_
                refine W.lcmp hx hb d_M_isSameRow_78 ?_
                refine lv_if_ne (tgt := 86) hx hb d_M_isSameRow_79 (by decide) (fun hc => ?_) (fun hc => ?_)
                · replace h := it_f h hc
                  refine lv_iconst (v := (0 : Int32)) hx hb d_M_isSameRow_86 (by decide) ?_
                  refine lv_istore_n (lv' := [(3, .int (0 : Int32)), (5, .int (ga σ 18 ((((6 : Int32) * x1) + x4)).toNatClampNeg)), (0, .ref (a 0)), (1, .int x1), (2, .int x2), (4, .int x4)]) hx hb d_M_isSameRow_87 rfl hl (by decide) rfl (fun ls hl => ?_)
                  refine lv_iinc (v := (x4 + 1)) (lv' := [(4, .int (x4 + 1)), (3, .int (0 : Int32)), (5, .int (ga σ 18 ((((6 : Int32) * x1) + x4)).toNatClampNeg)), (0, .ref (a 0)), (1, .int x1), (2, .int x2)]) hx hb d_M_isSameRow_88 hl (k := 5) rfl rfl (by decide) rfl (fun ls hl => ?_)
                  refine lv_goto (tgt := 5) hx hb d_M_isSameRow_91 (by decide) ?_
                  exact ih5 σ x1 x2 (0 : Int32) (x4 + 1) H locs ls hP hD hS (lv_sub hl [3, 4, 5, 1, 0] rfl) h
                · replace h := it_t h hc
                  refine lv_iconst (v := (1 : Int32)) hx hb d_M_isSameRow_82 (by decide) ?_
                  refine lv_goto (tgt := 87) hx hb d_M_isSameRow_83 (by decide) ?_
                  refine lv_istore_n (lv' := [(3, .int (1 : Int32)), (5, .int (ga σ 18 ((((6 : Int32) * x1) + x4)).toNatClampNeg)), (0, .ref (a 0)), (1, .int x1), (2, .int x2), (4, .int x4)]) hx hb d_M_isSameRow_87 rfl hl (by decide) rfl (fun ls hl => ?_)
                  refine lv_iinc (v := (x4 + 1)) (lv' := [(4, .int (x4 + 1)), (3, .int (1 : Int32)), (5, .int (ga σ 18 ((((6 : Int32) * x1) + x4)).toNatClampNeg)), (0, .ref (a 0)), (1, .int x1), (2, .int x2)]) hx hb d_M_isSameRow_88 hl (k := 5) rfl rfl (by decide) rfl (fun ls hl => ?_)
                  refine lv_goto (tgt := 5) hx hb d_M_isSameRow_91 (by decide) ?_
                  exact ih5 σ x1 x2 (1 : Int32) (x4 + 1) H locs ls hP hD hS (lv_sub hl [3, 4, 5, 1, 0] rfl) h
  refine lv_istore (lv' := [(4, .int (0 : Int32)), (3, .int (1 : Int32)), (0, .ref (a 0)), (1, .int x1), (2, .int x2)]) hx hb d_M_isSameRow_3 hl (by decide) rfl (fun ls hl => ?_)
  exact L5 N σ x1 x2 (1 : Int32) (0 : Int32) H locs ls hP hD hS (lv_sub hl [2, 3, 4, 1, 0] rfl) h
