set_option maxRecDepth 100000 in
set_option maxHeartbeats 4000000 in
theorem c_M_leaveOut (l : Launch) (D : va_G) (ca : Nat → ClassId) (g : Bool) (a : Nat → Nat) (tl : va_W) (N : Nat) (σ σ' : St) (h : f_M_leaveOut N σ = some ((), σ')) : CtV l y_M_leaveOut ws_M_leaveOut rm_M_leaveOut 0 0 D vCl (tyM ca) nwM [.ref (a 0)] (wM g ca a σ ++ tl) (wM g ca a σ' ++ tl) := by
  refine en_V (ws' := BIG) (by decide +kernel) rfl (Nat.le_of_ble_eq_true rfl) ?_
  intro p e s m below meth c A ls R args H locs hR hx hb hr hlk hml hown hB hK hN hP hD hA hS hl
  have hl : lv_has ls 5 [(0, .ref (a 0))] := hl
  unfold f_M_leaveOut at h
  refine lv_iconst (v := (0 : Int32)) hx hb d_M_leaveOut_0 (by decide) ?_
  refine lv_istore_n (lv' := [(1, .int (0 : Int32)), (0, .ref (a 0))]) hx hb d_M_leaveOut_1 rfl hl (by decide) rfl (fun ls hl => ?_)
  refine lv_iconst (v := (0 : Int32)) hx hb d_M_leaveOut_2 (by decide) ?_
  have L4 : ∀ (n : Nat) (σ : St) (x1 : Int32) (x2 : Int32) (H : Heap) (locs : List Loc) (ls : Array Slot), va_P D vCl (wM g ca a σ ++ tl) H → va_D A (wM g ca a σ ++ tl) → va_S A s.heap H locs → lv_has ls 5 [(0, .ref (a 0)), (1, .int x1), (2, .int x2)] → f_M_leaveOut_4 N n σ x1 x2 = some ((), σ') → W p l e R s m args below meth c H locs 0 0 (MQ below (qb_QV D vCl (tyM ca) (wM g ca a σ' ++ tl) A) args s 0 0 A) (F0 m 4 ls []) := by
    intro n
    induction n with
    | zero => intro σ x1 x2 H locs ls hP hD hS hl h; cases h
    | succ n ih4 =>
        intro σ x1 x2 H locs ls hP hD hS hl h
        obtain ⟨K4, eK4⟩ : ∃ K, K = f_M_leaveOut_4 N n := ⟨_, rfl⟩
        rw [← eK4] at ih4
        replace h : f_M_leaveOut_4_b N K4 σ x1 x2 = some ((), σ') := by rw [eK4]; exact h
        unfold f_M_leaveOut_4_b at h
        refine lv_iload_n hx hb d_M_leaveOut_4 rfl (lv_at hl 2 rfl) ?_
        refine lv_aload_n hx hb d_M_leaveOut_5 rfl (lv_at hl 0 rfl) ?_
        refine Mg_0_32 hx hb hB hown (hB _ m_893) hK hP d_M_leaveOut_6 ?_
        refine lv_icmp_ge (tgt := 68) hx hb d_M_leaveOut_9 (by decide) (fun hc => ?_) (fun hc => ?_)
        · replace h := it_t h hc
          refine lv_aload_n hx hb d_M_leaveOut_68 rfl (lv_at hl 0 rfl) ?_
          refine lv_iload_n hx hb d_M_leaveOut_69 rfl (lv_at hl 1 rfl) ?_
          obtain ⟨s1, es1, h⟩ := nm_some h
          refine Mp_0_32 es1 hx hb hB hown (hB _ m_893) hK hP hD hS d_M_leaveOut_70 (fun H locs hP hD hS => ?_)
          exact rf_V (w := (fun z => wM g ca a z ++ tl)) h hx hb hr hlk hK hP hD hS d_M_leaveOut_73
        · replace h := it_f h hc
          refine lv_iconst (v := (0 : Int32)) hx hb d_M_leaveOut_12 (by decide) ?_
          refine lv_istore_n (lv' := [(3, .int (0 : Int32)), (0, .ref (a 0)), (1, .int x1), (2, .int x2)]) hx hb d_M_leaveOut_13 rfl hl (by decide) rfl (fun ls hl => ?_)
          refine lv_iconst (v := (0 : Int32)) hx hb d_M_leaveOut_14 (by decide) ?_
          have L17 : ∀ (n : Nat) (σ : St) (x1 : Int32) (x2 : Int32) (x3 : Int32) (x4 : Int32) (H : Heap) (locs : List Loc) (ls : Array Slot), va_P D vCl (wM g ca a σ ++ tl) H → va_D A (wM g ca a σ ++ tl) → va_S A s.heap H locs → lv_has ls 5 [(0, .ref (a 0)), (1, .int x1), (2, .int x2), (3, .int x3), (4, .int x4)] → f_M_leaveOut_17 N K4 n σ x1 x2 x3 x4 = some ((), σ') → W p l e R s m args below meth c H locs 0 0 (MQ below (qb_QV D vCl (tyM ca) (wM g ca a σ' ++ tl) A) args s 0 0 A) (F0 m 17 ls []) := by
            intro n
            induction n with
            | zero => intro σ x1 x2 x3 x4 H locs ls hP hD hS hl h; cases h
            | succ n ih17 =>
                intro σ x1 x2 x3 x4 H locs ls hP hD hS hl h
                obtain ⟨K17, eK17⟩ : ∃ K, K = f_M_leaveOut_17 N K4 n := ⟨_, rfl⟩
                rw [← eK17] at ih17
                replace h : f_M_leaveOut_17_b N K4 K17 σ x1 x2 x3 x4 = some ((), σ') := by rw [eK17]; exact h
                unfold f_M_leaveOut_17_b at h
                refine lv_iload hx hb d_M_leaveOut_17 (lv_at hl 4 rfl) ?_
                refine lv_iload_n hx hb d_M_leaveOut_19 rfl (lv_at hl 1 rfl) ?_
                refine lv_icmp_ge (tgt := 49) hx hb d_M_leaveOut_20 (by decide) (fun hc => ?_) (fun hc => ?_)
                · replace h := it_t h hc
                  refine lv_iload_n hx hb d_M_leaveOut_49 rfl (lv_at hl 3 rfl) ?_
                  refine lv_if_ne (tgt := 62) hx hb d_M_leaveOut_50 (by decide) (fun hc => ?_) (fun hc => ?_)
                  · replace h := it_f h hc
                    refine lv_iinc (v := (x2 + 1)) (lv' := [(2, .int (x2 + 1)), (0, .ref (a 0)), (1, .int x1), (3, .int x3), (4, .int x4)]) hx hb d_M_leaveOut_62 hl (k := 2) rfl rfl (by decide) rfl (fun ls hl => ?_)
                    refine lv_goto (tgt := 4) hx hb d_M_leaveOut_65 (by decide) ?_
                    exact ih4 σ x1 (x2 + 1) H locs ls hP hD hS (lv_sub hl [1, 2, 0] rfl) h
                  · replace h := it_t h hc
                    refine lv_aload_n hx hb d_M_leaveOut_53 rfl (lv_at hl 0 rfl) ?_
                    refine lv_iload_n hx hb d_M_leaveOut_54 rfl (lv_at hl 1 rfl) ?_
                    refine lv_iload_n hx hb d_M_leaveOut_55 rfl (lv_at hl 2 rfl) ?_
                    obtain ⟨r2, s3, hr2, h⟩ := bd_some h
                    cases r2
                    refine go_VV (rest := []) ⟨hx, hb, hml, hown, hB⟩ nwM_ok (c_M_moveRow l D ca g a tl N σ s3 x1 x2 hr2) (cwx_V hB m_1241 kw_M_moveRow ⟨by rw [hR]; decide, by rw [hR]; decide⟩ rfl rfl) (va_recv hK hP (ci := 1) (q0 := 0) rfl rfl) hN hK hP hD hS hA rfl hl.1 rfl (Nat.le_of_ble_eq_true rfl) d_M_leaveOut_56 ⟨by rw [hR]; exact Nat.le_of_ble_eq_true rfl, by rw [hR]; exact Nat.le_of_ble_eq_true rfl⟩ (fun H locs hP hD hS => ?_)
                    refine lv_iinc (v := (x1 + 1)) (lv' := [(1, .int (x1 + 1)), (0, .ref (a 0)), (2, .int x2), (3, .int x3), (4, .int x4)]) hx hb d_M_leaveOut_59 hl (k := 1) rfl rfl (by decide) rfl (fun ls hl => ?_)
                    refine lv_iinc (v := (x2 + 1)) (lv' := [(2, .int (x2 + 1)), (1, .int (x1 + 1)), (0, .ref (a 0)), (3, .int x3), (4, .int x4)]) hx hb d_M_leaveOut_62 hl (k := 2) rfl rfl (by decide) rfl (fun ls hl => ?_)
                    refine lv_goto (tgt := 4) hx hb d_M_leaveOut_65 (by decide) ?_
                    exact ih4 s3 (x1 + 1) (x2 + 1) H locs ls hP hD hS (lv_sub hl [2, 1, 0] rfl) h
                · replace h := it_f h hc
                  refine lv_iload_n hx hb d_M_leaveOut_23 rfl (lv_at hl 3 rfl) ?_
                  refine lv_if_ne (tgt := 37) hx hb d_M_leaveOut_24 (by decide) (fun hc => ?_) (fun hc => ?_)
                  · replace h := it_f h hc
                    refine lv_iconst (v := (1 : Int32)) hx hb d_M_leaveOut_37 (by decide) ?_
                    refine lv_goto (tgt := 42) hx hb d_M_leaveOut_38 (by decide) ?_
                    refine lv_istore_n (lv' := [(3, .int (1 : Int32)), (0, .ref (a 0)), (1, .int x1), (2, .int x2), (4, .int x4)]) hx hb d_M_leaveOut_42 rfl hl (by decide) rfl (fun ls hl => ?_)
                    refine lv_iinc (v := (x4 + 1)) (lv' := [(4, .int (x4 + 1)), (3, .int (1 : Int32)), (0, .ref (a 0)), (1, .int x1), (2, .int x2)]) hx hb d_M_leaveOut_43 hl (k := 4) rfl rfl (by decide) rfl (fun ls hl => ?_)
                    refine lv_goto (tgt := 17) hx hb d_M_leaveOut_46 (by decide) ?_
                    exact ih17 σ x1 x2 (1 : Int32) (x4 + 1) H locs ls hP hD hS (lv_sub hl [2, 3, 4, 1, 0] rfl) h
                  · replace h := it_t h hc
                    refine lv_aload_n hx hb d_M_leaveOut_27 rfl (lv_at hl 0 rfl) ?_
                    refine lv_iload hx hb d_M_leaveOut_28 (lv_at hl 4 rfl) ?_
                    refine lv_iload_n hx hb d_M_leaveOut_30 rfl (lv_at hl 2 rfl) ?_
                    obtain ⟨r4, s5, hr4, h⟩ := bd_some h
                    refine go_VI (rest := []) ⟨hx, hb, hml, hown, hB⟩ nwM_ok (c_M_isSameRow l D ca g a tl N σ s5 x4 x2 r4 hr4) (cwx_V hB m_1237 kw_M_isSameRow ⟨by rw [hR]; decide, by rw [hR]; decide⟩ rfl rfl) (va_recv hK hP (ci := 1) (q0 := 0) rfl rfl) hN hK hP hD hS hA rfl hl.1 rfl (Nat.le_of_ble_eq_true rfl) d_M_leaveOut_31 ⟨by rw [hR]; exact Nat.le_of_ble_eq_true rfl, by rw [hR]; exact Nat.le_of_ble_eq_true rfl⟩ (fun H locs hP hD hS => ?_)
                    refine lv_if_eq (tgt := 41) hx hb d_M_leaveOut_34 (by decide) (fun hc => ?_) (fun hc => ?_)
                    · replace h := it_t h hc
                      refine lv_iconst (v := (0 : Int32)) hx hb d_M_leaveOut_41 (by decide) ?_
                      refine lv_istore_n (lv' := [(3, .int (0 : Int32)), (0, .ref (a 0)), (1, .int x1), (2, .int x2), (4, .int x4)]) hx hb d_M_leaveOut_42 rfl hl (by decide) rfl (fun ls hl => ?_)
                      refine lv_iinc (v := (x4 + 1)) (lv' := [(4, .int (x4 + 1)), (3, .int (0 : Int32)), (0, .ref (a 0)), (1, .int x1), (2, .int x2)]) hx hb d_M_leaveOut_43 hl (k := 4) rfl rfl (by decide) rfl (fun ls hl => ?_)
                      refine lv_goto (tgt := 17) hx hb d_M_leaveOut_46 (by decide) ?_
                      exact ih17 s5 x1 x2 (0 : Int32) (x4 + 1) H locs ls hP hD hS (lv_sub hl [2, 3, 4, 1, 0] rfl) h
                    · replace h := it_f h hc
                      refine lv_iconst (v := (1 : Int32)) hx hb d_M_leaveOut_37 (by decide) ?_
                      refine lv_goto (tgt := 42) hx hb d_M_leaveOut_38 (by decide) ?_
                      refine lv_istore_n (lv' := [(3, .int (1 : Int32)), (0, .ref (a 0)), (1, .int x1), (2, .int x2), (4, .int x4)]) hx hb d_M_leaveOut_42 rfl hl (by decide) rfl (fun ls hl => ?_)
                      refine lv_iinc (v := (x4 + 1)) (lv' := [(4, .int (x4 + 1)), (3, .int (1 : Int32)), (0, .ref (a 0)), (1, .int x1), (2, .int x2)]) hx hb d_M_leaveOut_43 hl (k := 4) rfl rfl (by decide) rfl (fun ls hl => ?_)
                      refine lv_goto (tgt := 17) hx hb d_M_leaveOut_46 (by decide) ?_
                      exact ih17 s5 x1 x2 (1 : Int32) (x4 + 1) H locs ls hP hD hS (lv_sub hl [2, 3, 4, 1, 0] rfl) h
          refine lv_istore (lv' := [(4, .int (0 : Int32)), (3, .int (0 : Int32)), (0, .ref (a 0)), (1, .int x1), (2, .int x2)]) hx hb d_M_leaveOut_15 hl (by decide) rfl (fun ls hl => ?_)
          exact L17 N σ x1 x2 (0 : Int32) (0 : Int32) H locs ls hP hD hS (lv_sub hl [2, 3, 4, 1, 0] rfl) h
  refine lv_istore_n (lv' := [(2, .int (0 : Int32)), (1, .int (0 : Int32)), (0, .ref (a 0))]) hx hb d_M_leaveOut_3 rfl hl (by decide) rfl (fun ls hl => ?_)
  exact L4 N σ (0 : Int32) (0 : Int32) H locs ls hP hD hS (lv_sub hl [2, 1, 0] rfl) h
set_option maxRecDepth 100000 in
set_option maxHeartbeats 4000000 in
theorem c_M_goThroughGroups (l : Launch) (D : va_G) (ca : Nat → ClassId) (g : Bool) (a : Nat → Nat) (tl : va_W) (N : Nat) (σ σ' : St) (h : f_M_goThroughGroups N σ = some ((), σ')) : CtV l y_M_goThroughGroups ws_M_goThroughGroups rm_M_goThroughGroups 0 0 D vCl (tyM ca) nwM [.ref (a 0)] (wM g ca a σ ++ tl) (wM g ca a σ' ++ tl) := by
  refine en_V (ws' := BIG) (by decide +kernel) rfl (Nat.le_of_ble_eq_true rfl) ?_
  intro p e s m below meth c A ls R args H locs hR hx hb hr hlk hml hown hB hK hN hP hD hA hS hl
  have hl : lv_has ls 2 [(0, .ref (a 0))] := hl
  unfold f_M_goThroughGroups at h
  refine lv_aload_n hx hb d_M_goThroughGroups_0 rfl (lv_at hl 0 rfl) ?_
  refine Mg_0_22 hx hb hB hown (hB _ m_883) hK hP d_M_goThroughGroups_1 ?_
  refine lv_if_ne (tgt := 19) hx hb d_M_goThroughGroups_4 (by decide) (fun hc => ?_) (fun hc => ?_)
  · replace h := it_f h hc
    refine lv_iconst (v := (0 : Int32)) hx hb d_M_goThroughGroups_19 (by decide) ?_
    have L21 : ∀ (n : Nat) (σ : St) (x1 : Int32) (H : Heap) (locs : List Loc) (ls : Array Slot), va_P D vCl (wM g ca a σ ++ tl) H → va_D A (wM g ca a σ ++ tl) → va_S A s.heap H locs → lv_has ls 2 [(0, .ref (a 0)), (1, .int x1)] → f_M_goThroughGroups_21 N n σ x1 = some ((), σ') → W p l e R s m args below meth c H locs 0 0 (MQ below (qb_QV D vCl (tyM ca) (wM g ca a σ' ++ tl) A) args s 0 0 A) (F0 m 21 ls []) := by
      intro n
      induction n with
      | zero => intro σ x1 H locs ls hP hD hS hl h; cases h
      | succ n ih21 =>
          intro σ x1 H locs ls hP hD hS hl h
          obtain ⟨K21, eK21⟩ : ∃ K, K = f_M_goThroughGroups_21 N n := ⟨_, rfl⟩
          rw [← eK21] at ih21
          replace h : f_M_goThroughGroups_21_b N K21 σ x1 = some ((), σ') := by rw [eK21]; exact h
          unfold f_M_goThroughGroups_21_b at h
          refine lv_iload_n hx hb d_M_goThroughGroups_21 rfl (lv_at hl 1 rfl) ?_
          refine lv_aload_n hx hb d_M_goThroughGroups_22 rfl (lv_at hl 0 rfl) ?_
          refine Mg_0_43 hx hb hB hown (hB _ m_904) hK hP d_M_goThroughGroups_23 ?_
          refine lv_icmp_ge (tgt := 69) hx hb d_M_goThroughGroups_26 (by decide) (fun hc => ?_) (fun hc => ?_)
          · replace h := it_t h hc
            refine lv_aload_n hx hb d_M_goThroughGroups_69 rfl (lv_at hl 0 rfl) ?_
            refine lv_iconst (v := (-1 : Int32)) hx hb d_M_goThroughGroups_70 (by decide) ?_
            obtain ⟨s1, es1, h⟩ := nm_some h
            refine Mp_0_48 es1 hx hb hB hown (hB _ m_909) hK hP hD hS d_M_goThroughGroups_71 (fun H locs hP hD hS => ?_)
            exact rf_V (w := (fun z => wM g ca a z ++ tl)) h hx hb hr hlk hK hP hD hS d_M_goThroughGroups_74
          · replace h := it_f h hc
            refine lv_aload_n hx hb d_M_goThroughGroups_29 rfl (lv_at hl 0 rfl) ?_
            refine Mg_0_36 hx hb hB hown (hB _ m_897) hK hP d_M_goThroughGroups_30 ?_
            refine lv_if_ne (tgt := 69) hx hb d_M_goThroughGroups_33 (by decide) (fun hc => ?_) (fun hc => ?_)
            · replace h := it_f h hc
              refine lv_aload_n hx hb d_M_goThroughGroups_69 rfl (lv_at hl 0 rfl) ?_
              refine lv_iconst (v := (-1 : Int32)) hx hb d_M_goThroughGroups_70 (by decide) ?_
              obtain ⟨s2, es2, h⟩ := nm_some h
              refine Mp_0_48 es2 hx hb hB hown (hB _ m_909) hK hP hD hS d_M_goThroughGroups_71 (fun H locs hP hD hS => ?_)
              exact rf_V (w := (fun z => wM g ca a z ++ tl)) h hx hb hr hlk hK hP hD hS d_M_goThroughGroups_74
            · replace h := it_t h hc
              refine lv_aload_n hx hb d_M_goThroughGroups_36 rfl (lv_at hl 0 rfl) ?_
              refine lv_iload_n hx hb d_M_goThroughGroups_37 rfl (lv_at hl 1 rfl) ?_
              obtain ⟨s3, es3, h⟩ := nm_some h
              refine Mp_0_48 es3 hx hb hB hown (hB _ m_909) hK hP hD hS d_M_goThroughGroups_38 (fun H locs hP hD hS => ?_)
              refine lv_aload_n hx hb d_M_goThroughGroups_41 rfl (lv_at hl 0 rfl) ?_
              refine Mg_0_21 hx hb hB hown (hB _ m_882) hK hP d_M_goThroughGroups_42 ?_
              have L59 : ∀ (σ : St) (x1 : Int32) (H : Heap) (locs : List Loc) (ls : Array Slot), va_P D vCl (wM g ca a σ ++ tl) H → va_D A (wM g ca a σ ++ tl) → va_S A s.heap H locs → lv_has ls 2 [(0, .ref (a 0)), (1, .int x1)] → f_M_goThroughGroups_59 N K21 σ x1 = some ((), σ') → W p l e R s m args below meth c H locs 0 0 (MQ below (qb_QV D vCl (tyM ca) (wM g ca a σ' ++ tl) A) args s 0 0 A) (F0 m 59 ls []) := by
                intro σ x1 H locs ls hP hD hS hl h
                unfold f_M_goThroughGroups_59 at h
                refine lv_aload_n hx hb d_M_goThroughGroups_59 rfl (lv_at hl 0 rfl) ?_
                obtain ⟨r4, s5, hr4, h⟩ := bd_some h
                cases r4
                refine go_VV (rest := []) ⟨hx, hb, hml, hown, hB⟩ nwM_ok (c_M_giveRow l D ca g a tl N σ s5 hr4) (cwx_V hB m_1217 kw_M_giveRow ⟨by rw [hR]; decide, by rw [hR]; decide⟩ rfl rfl) (va_recv hK hP (ci := 1) (q0 := 0) rfl rfl) hN hK hP hD hS hA rfl hl.1 rfl (Nat.le_of_ble_eq_true rfl) d_M_goThroughGroups_60 ⟨by rw [hR]; exact Nat.le_of_ble_eq_true rfl, by rw [hR]; exact Nat.le_of_ble_eq_true rfl⟩ (fun H locs hP hD hS => ?_)
                refine lv_iinc (v := (x1 + 1)) (lv' := [(1, .int (x1 + 1)), (0, .ref (a 0))]) hx hb d_M_goThroughGroups_63 hl (k := 1) rfl rfl (by decide) rfl (fun ls hl => ?_)
                refine lv_goto (tgt := 21) hx hb d_M_goThroughGroups_66 (by decide) ?_
                exact ih21 s5 (x1 + 1) H locs ls hP hD hS (lv_sub hl [1, 0] rfl) h
              refine lv_if_lt (tgt := 59) hx hb d_M_goThroughGroups_45 (by decide) (fun hc => ?_) (fun hc => ?_)
              · replace h := it_t h hc
                exact L59 s3 x1 H locs ls hP hD hS (lv_sub hl [0, 1] rfl) h
              · replace h := it_f h hc
                refine lv_aload_n hx hb d_M_goThroughGroups_48 rfl (lv_at hl 0 rfl) ?_
                refine lv_aload_n hx hb d_M_goThroughGroups_49 rfl (lv_at hl 0 rfl) ?_
                refine Mg_0_21 hx hb hB hown (hB _ m_882) hK hP d_M_goThroughGroups_50 ?_
                obtain ⟨r6, s7, hr6, h⟩ := bd_some h
                refine go_VI (rest := []) ⟨hx, hb, hml, hown, hB⟩ nwM_ok (c_M_isTrue l D ca g a tl N s3 s7 (gi s3 5) r6 hr6) (cwx_V hB m_1162 kw_M_isTrue ⟨by rw [hR]; decide, by rw [hR]; decide⟩ rfl rfl) (va_recv hK hP (ci := 1) (q0 := 0) rfl rfl) hN hK hP hD hS hA rfl hl.1 rfl (Nat.le_of_ble_eq_true rfl) d_M_goThroughGroups_53 ⟨by rw [hR]; exact Nat.le_of_ble_eq_true rfl, by rw [hR]; exact Nat.le_of_ble_eq_true rfl⟩ (fun H locs hP hD hS => ?_)
                refine lv_if_eq (tgt := 63) hx hb d_M_goThroughGroups_56 (by decide) (fun hc => ?_) (fun hc => ?_)
                · replace h := it_t h hc
                  refine lv_iinc (v := (x1 + 1)) (lv' := [(1, .int (x1 + 1)), (0, .ref (a 0))]) hx hb d_M_goThroughGroups_63 hl (k := 1) rfl rfl (by decide) rfl (fun ls hl => ?_)
                  refine lv_goto (tgt := 21) hx hb d_M_goThroughGroups_66 (by decide) ?_
                  exact ih21 s7 (x1 + 1) H locs ls hP hD hS (lv_sub hl [1, 0] rfl) h
                · replace h := it_f h hc
                  exact L59 s7 x1 H locs ls hP hD hS (lv_sub hl [0, 1] rfl) h
    refine lv_istore_n (lv' := [(1, .int (0 : Int32)), (0, .ref (a 0))]) hx hb d_M_goThroughGroups_20 rfl hl (by decide) rfl (fun ls hl => ?_)
    exact L21 N σ (0 : Int32) H locs ls hP hD hS (lv_sub hl [1, 0] rfl) h
  · replace h := it_t h hc
    refine lv_aload_n hx hb d_M_goThroughGroups_7 rfl (lv_at hl 0 rfl) ?_
    refine Mg_0_43 hx hb hB hown (hB _ m_904) hK hP d_M_goThroughGroups_8 ?_
    refine lv_if_ne (tgt := 19) hx hb d_M_goThroughGroups_11 (by decide) (fun hc => ?_) (fun hc => ?_)
    · replace h := it_f h hc
      refine lv_iconst (v := (0 : Int32)) hx hb d_M_goThroughGroups_19 (by decide) ?_
      have L21 : ∀ (n : Nat) (σ : St) (x1 : Int32) (H : Heap) (locs : List Loc) (ls : Array Slot), va_P D vCl (wM g ca a σ ++ tl) H → va_D A (wM g ca a σ ++ tl) → va_S A s.heap H locs → lv_has ls 2 [(0, .ref (a 0)), (1, .int x1)] → f_M_goThroughGroups_21 N n σ x1 = some ((), σ') → W p l e R s m args below meth c H locs 0 0 (MQ below (qb_QV D vCl (tyM ca) (wM g ca a σ' ++ tl) A) args s 0 0 A) (F0 m 21 ls []) := by
        intro n
        induction n with
        | zero => intro σ x1 H locs ls hP hD hS hl h; cases h
        | succ n ih21 =>
            intro σ x1 H locs ls hP hD hS hl h
            obtain ⟨K21, eK21⟩ : ∃ K, K = f_M_goThroughGroups_21 N n := ⟨_, rfl⟩
            rw [← eK21] at ih21
            replace h : f_M_goThroughGroups_21_b N K21 σ x1 = some ((), σ') := by rw [eK21]; exact h
            unfold f_M_goThroughGroups_21_b at h
            refine lv_iload_n hx hb d_M_goThroughGroups_21 rfl (lv_at hl 1 rfl) ?_
            refine lv_aload_n hx hb d_M_goThroughGroups_22 rfl (lv_at hl 0 rfl) ?_
            refine Mg_0_43 hx hb hB hown (hB _ m_904) hK hP d_M_goThroughGroups_23 ?_
            refine lv_icmp_ge (tgt := 69) hx hb d_M_goThroughGroups_26 (by decide) (fun hc => ?_) (fun hc => ?_)
            · replace h := it_t h hc
              refine lv_aload_n hx hb d_M_goThroughGroups_69 rfl (lv_at hl 0 rfl) ?_
              refine lv_iconst (v := (-1 : Int32)) hx hb d_M_goThroughGroups_70 (by decide) ?_
              obtain ⟨s8, es8, h⟩ := nm_some h
              refine Mp_0_48 es8 hx hb hB hown (hB _ m_909) hK hP hD hS d_M_goThroughGroups_71 (fun H locs hP hD hS => ?_)
              exact rf_V (w := (fun z => wM g ca a z ++ tl)) h hx hb hr hlk hK hP hD hS d_M_goThroughGroups_74
            · replace h := it_f h hc
              refine lv_aload_n hx hb d_M_goThroughGroups_29 rfl (lv_at hl 0 rfl) ?_
              refine Mg_0_36 hx hb hB hown (hB _ m_897) hK hP d_M_goThroughGroups_30 ?_
              refine lv_if_ne (tgt := 69) hx hb d_M_goThroughGroups_33 (by decide) (fun hc => ?_) (fun hc => ?_)
              · replace h := it_f h hc
                refine lv_aload_n hx hb d_M_goThroughGroups_69 rfl (lv_at hl 0 rfl) ?_
                refine lv_iconst (v := (-1 : Int32)) hx hb d_M_goThroughGroups_70 (by decide) ?_
                obtain ⟨s9, es9, h⟩ := nm_some h
                refine Mp_0_48 es9 hx hb hB hown (hB _ m_909) hK hP hD hS d_M_goThroughGroups_71 (fun H locs hP hD hS => ?_)
                exact rf_V (w := (fun z => wM g ca a z ++ tl)) h hx hb hr hlk hK hP hD hS d_M_goThroughGroups_74
              · replace h := it_t h hc
                refine lv_aload_n hx hb d_M_goThroughGroups_36 rfl (lv_at hl 0 rfl) ?_
                refine lv_iload_n hx hb d_M_goThroughGroups_37 rfl (lv_at hl 1 rfl) ?_
                obtain ⟨s10, es10, h⟩ := nm_some h
                refine Mp_0_48 es10 hx hb hB hown (hB _ m_909) hK hP hD hS d_M_goThroughGroups_38 (fun H locs hP hD hS => ?_)
                refine lv_aload_n hx hb d_M_goThroughGroups_41 rfl (lv_at hl 0 rfl) ?_
                refine Mg_0_21 hx hb hB hown (hB _ m_882) hK hP d_M_goThroughGroups_42 ?_
                have L59 : ∀ (σ : St) (x1 : Int32) (H : Heap) (locs : List Loc) (ls : Array Slot), va_P D vCl (wM g ca a σ ++ tl) H → va_D A (wM g ca a σ ++ tl) → va_S A s.heap H locs → lv_has ls 2 [(0, .ref (a 0)), (1, .int x1)] → f_M_goThroughGroups_59 N K21 σ x1 = some ((), σ') → W p l e R s m args below meth c H locs 0 0 (MQ below (qb_QV D vCl (tyM ca) (wM g ca a σ' ++ tl) A) args s 0 0 A) (F0 m 59 ls []) := by
                  intro σ x1 H locs ls hP hD hS hl h
                  unfold f_M_goThroughGroups_59 at h
                  refine lv_aload_n hx hb d_M_goThroughGroups_59 rfl (lv_at hl 0 rfl) ?_
                  obtain ⟨r11, s12, hr11, h⟩ := bd_some h
                  cases r11
                  refine go_VV (rest := []) ⟨hx, hb, hml, hown, hB⟩ nwM_ok (c_M_giveRow l D ca g a tl N σ s12 hr11) (cwx_V hB m_1217 kw_M_giveRow ⟨by rw [hR]; decide, by rw [hR]; decide⟩ rfl rfl) (va_recv hK hP (ci := 1) (q0 := 0) rfl rfl) hN hK hP hD hS hA rfl hl.1 rfl (Nat.le_of_ble_eq_true rfl) d_M_goThroughGroups_60 ⟨by rw [hR]; exact Nat.le_of_ble_eq_true rfl, by rw [hR]; exact Nat.le_of_ble_eq_true rfl⟩ (fun H locs hP hD hS => ?_)
                  refine lv_iinc (v := (x1 + 1)) (lv' := [(1, .int (x1 + 1)), (0, .ref (a 0))]) hx hb d_M_goThroughGroups_63 hl (k := 1) rfl rfl (by decide) rfl (fun ls hl => ?_)
                  refine lv_goto (tgt := 21) hx hb d_M_goThroughGroups_66 (by decide) ?_
                  exact ih21 s12 (x1 + 1) H locs ls hP hD hS (lv_sub hl [1, 0] rfl) h
                refine lv_if_lt (tgt := 59) hx hb d_M_goThroughGroups_45 (by decide) (fun hc => ?_) (fun hc => ?_)
                · replace h := it_t h hc
                  exact L59 s10 x1 H locs ls hP hD hS (lv_sub hl [0, 1] rfl) h
                · replace h := it_f h hc
                  refine lv_aload_n hx hb d_M_goThroughGroups_48 rfl (lv_at hl 0 rfl) ?_
                  refine lv_aload_n hx hb d_M_goThroughGroups_49 rfl (lv_at hl 0 rfl) ?_
                  refine Mg_0_21 hx hb hB hown (hB _ m_882) hK hP d_M_goThroughGroups_50 ?_
                  obtain ⟨r13, s14, hr13, h⟩ := bd_some h
                  refine go_VI (rest := []) ⟨hx, hb, hml, hown, hB⟩ nwM_ok (c_M_isTrue l D ca g a tl N s10 s14 (gi s10 5) r13 hr13) (cwx_V hB m_1162 kw_M_isTrue ⟨by rw [hR]; decide, by rw [hR]; decide⟩ rfl rfl) (va_recv hK hP (ci := 1) (q0 := 0) rfl rfl) hN hK hP hD hS hA rfl hl.1 rfl (Nat.le_of_ble_eq_true rfl) d_M_goThroughGroups_53 ⟨by rw [hR]; exact Nat.le_of_ble_eq_true rfl, by rw [hR]; exact Nat.le_of_ble_eq_true rfl⟩ (fun H locs hP hD hS => ?_)
                  refine lv_if_eq (tgt := 63) hx hb d_M_goThroughGroups_56 (by decide) (fun hc => ?_) (fun hc => ?_)
                  · replace h := it_t h hc
                    refine lv_iinc (v := (x1 + 1)) (lv' := [(1, .int (x1 + 1)), (0, .ref (a 0))]) hx hb d_M_goThroughGroups_63 hl (k := 1) rfl rfl (by decide) rfl (fun ls hl => ?_)
                    refine lv_goto (tgt := 21) hx hb d_M_goThroughGroups_66 (by decide) ?_
                    exact ih21 s14 (x1 + 1) H locs ls hP hD hS (lv_sub hl [1, 0] rfl) h
                  · replace h := it_f h hc
                    exact L59 s14 x1 H locs ls hP hD hS (lv_sub hl [0, 1] rfl) h
      refine lv_istore_n (lv' := [(1, .int (0 : Int32)), (0, .ref (a 0))]) hx hb d_M_goThroughGroups_20 rfl hl (by decide) rfl (fun ls hl => ?_)
      exact L21 N σ (0 : Int32) H locs ls hP hD hS (lv_sub hl [1, 0] rfl) h
    · replace h := it_t h hc
      refine lv_aload_n hx hb d_M_goThroughGroups_14 rfl (lv_at hl 0 rfl) ?_
      refine lv_iconst (v := (1 : Int32)) hx hb d_M_goThroughGroups_15 (by decide) ?_
      obtain ⟨s15, es15, h⟩ := nm_some h
      refine Mp_0_43 es15 hx hb hB hown (hB _ m_904) hK hP hD hS d_M_goThroughGroups_16 (fun H locs hP hD hS => ?_)
      refine lv_iconst (v := (0 : Int32)) hx hb d_M_goThroughGroups_19 (by decide) ?_
      have L21 : ∀ (n : Nat) (σ : St) (x1 : Int32) (H : Heap) (locs : List Loc) (ls : Array Slot), va_P D vCl (wM g ca a σ ++ tl) H → va_D A (wM g ca a σ ++ tl) → va_S A s.heap H locs → lv_has ls 2 [(0, .ref (a 0)), (1, .int x1)] → f_M_goThroughGroups_21 N n σ x1 = some ((), σ') → W p l e R s m args below meth c H locs 0 0 (MQ below (qb_QV D vCl (tyM ca) (wM g ca a σ' ++ tl) A) args s 0 0 A) (F0 m 21 ls []) := by
        intro n
        induction n with
        | zero => intro σ x1 H locs ls hP hD hS hl h; cases h
        | succ n ih21 =>
            intro σ x1 H locs ls hP hD hS hl h
            obtain ⟨K21, eK21⟩ : ∃ K, K = f_M_goThroughGroups_21 N n := ⟨_, rfl⟩
            rw [← eK21] at ih21
            replace h : f_M_goThroughGroups_21_b N K21 σ x1 = some ((), σ') := by rw [eK21]; exact h
            unfold f_M_goThroughGroups_21_b at h
            refine lv_iload_n hx hb d_M_goThroughGroups_21 rfl (lv_at hl 1 rfl) ?_
            refine lv_aload_n hx hb d_M_goThroughGroups_22 rfl (lv_at hl 0 rfl) ?_
            refine Mg_0_43 hx hb hB hown (hB _ m_904) hK hP d_M_goThroughGroups_23 ?_
            refine lv_icmp_ge (tgt := 69) hx hb d_M_goThroughGroups_26 (by decide) (fun hc => ?_) (fun hc => ?_)
            · replace h := it_t h hc
              refine lv_aload_n hx hb d_M_goThroughGroups_69 rfl (lv_at hl 0 rfl) ?_
              refine lv_iconst (v := (-1 : Int32)) hx hb d_M_goThroughGroups_70 (by decide) ?_
              obtain ⟨s16, es16, h⟩ := nm_some h
              refine Mp_0_48 es16 hx hb hB hown (hB _ m_909) hK hP hD hS d_M_goThroughGroups_71 (fun H locs hP hD hS => ?_)
              exact rf_V (w := (fun z => wM g ca a z ++ tl)) h hx hb hr hlk hK hP hD hS d_M_goThroughGroups_74
            · replace h := it_f h hc
              refine lv_aload_n hx hb d_M_goThroughGroups_29 rfl (lv_at hl 0 rfl) ?_
              refine Mg_0_36 hx hb hB hown (hB _ m_897) hK hP d_M_goThroughGroups_30 ?_
              refine lv_if_ne (tgt := 69) hx hb d_M_goThroughGroups_33 (by decide) (fun hc => ?_) (fun hc => ?_)
              · replace h := it_f h hc
                refine lv_aload_n hx hb d_M_goThroughGroups_69 rfl (lv_at hl 0 rfl) ?_
                refine lv_iconst (v := (-1 : Int32)) hx hb d_M_goThroughGroups_70 (by decide) ?_
                obtain ⟨s17, es17, h⟩ := nm_some h
                refine Mp_0_48 es17 hx hb hB hown (hB _ m_909) hK hP hD hS d_M_goThroughGroups_71 (fun H locs hP hD hS => ?_)
                exact rf_V (w := (fun z => wM g ca a z ++ tl)) h hx hb hr hlk hK hP hD hS d_M_goThroughGroups_74
              · replace h := it_t h hc
                refine lv_aload_n hx hb d_M_goThroughGroups_36 rfl (lv_at hl 0 rfl) ?_
                refine lv_iload_n hx hb d_M_goThroughGroups_37 rfl (lv_at hl 1 rfl) ?_
                obtain ⟨s18, es18, h⟩ := nm_some h
                refine Mp_0_48 es18 hx hb hB hown (hB _ m_909) hK hP hD hS d_M_goThroughGroups_38 (fun H locs hP hD hS => ?_)
                refine lv_aload_n hx hb d_M_goThroughGroups_41 rfl (lv_at hl 0 rfl) ?_
                refine Mg_0_21 hx hb hB hown (hB _ m_882) hK hP d_M_goThroughGroups_42 ?_
                have L59 : ∀ (σ : St) (x1 : Int32) (H : Heap) (locs : List Loc) (ls : Array Slot), va_P D vCl (wM g ca a σ ++ tl) H → va_D A (wM g ca a σ ++ tl) → va_S A s.heap H locs → lv_has ls 2 [(0, .ref (a 0)), (1, .int x1)] → f_M_goThroughGroups_59 N K21 σ x1 = some ((), σ') → W p l e R s m args below meth c H locs 0 0 (MQ below (qb_QV D vCl (tyM ca) (wM g ca a σ' ++ tl) A) args s 0 0 A) (F0 m 59 ls []) := by
                  intro σ x1 H locs ls hP hD hS hl h
                  unfold f_M_goThroughGroups_59 at h
                  refine lv_aload_n hx hb d_M_goThroughGroups_59 rfl (lv_at hl 0 rfl) ?_
                  obtain ⟨r19, s20, hr19, h⟩ := bd_some h
                  cases r19
                  refine go_VV (rest := []) ⟨hx, hb, hml, hown, hB⟩ nwM_ok (c_M_giveRow l D ca g a tl N σ s20 hr19) (cwx_V hB m_1217 kw_M_giveRow ⟨by rw [hR]; decide, by rw [hR]; decide⟩ rfl rfl) (va_recv hK hP (ci := 1) (q0 := 0) rfl rfl) hN hK hP hD hS hA rfl hl.1 rfl (Nat.le_of_ble_eq_true rfl) d_M_goThroughGroups_60 ⟨by rw [hR]; exact Nat.le_of_ble_eq_true rfl, by rw [hR]; exact Nat.le_of_ble_eq_true rfl⟩ (fun H locs hP hD hS => ?_)
                  refine lv_iinc (v := (x1 + 1)) (lv' := [(1, .int (x1 + 1)), (0, .ref (a 0))]) hx hb d_M_goThroughGroups_63 hl (k := 1) rfl rfl (by decide) rfl (fun ls hl => ?_)
                  refine lv_goto (tgt := 21) hx hb d_M_goThroughGroups_66 (by decide) ?_
                  exact ih21 s20 (x1 + 1) H locs ls hP hD hS (lv_sub hl [1, 0] rfl) h
                refine lv_if_lt (tgt := 59) hx hb d_M_goThroughGroups_45 (by decide) (fun hc => ?_) (fun hc => ?_)
                · replace h := it_t h hc
                  exact L59 s18 x1 H locs ls hP hD hS (lv_sub hl [0, 1] rfl) h
                · replace h := it_f h hc
                  refine lv_aload_n hx hb d_M_goThroughGroups_48 rfl (lv_at hl 0 rfl) ?_
                  refine lv_aload_n hx hb d_M_goThroughGroups_49 rfl (lv_at hl 0 rfl) ?_
                  refine Mg_0_21 hx hb hB hown (hB _ m_882) hK hP d_M_goThroughGroups_50 ?_
                  obtain ⟨r21, s22, hr21, h⟩ := bd_some h
                  refine go_VI (rest := []) ⟨hx, hb, hml, hown, hB⟩ nwM_ok (c_M_isTrue l D ca g a tl N s18 s22 (gi s18 5) r21 hr21) (cwx_V hB m_1162 kw_M_isTrue ⟨by rw [hR]; decide, by rw [hR]; decide⟩ rfl rfl) (va_recv hK hP (ci := 1) (q0 := 0) rfl rfl) hN hK hP hD hS hA rfl hl.1 rfl (Nat.le_of_ble_eq_true rfl) d_M_goThroughGroups_53 ⟨by rw [hR]; exact Nat.le_of_ble_eq_true rfl, by rw [hR]; exact Nat.le_of_ble_eq_true rfl⟩ (fun H locs hP hD hS => ?_)
                  refine lv_if_eq (tgt := 63) hx hb d_M_goThroughGroups_56 (by decide) (fun hc => ?_) (fun hc => ?_)
                  · replace h := it_t h hc
                    refine lv_iinc (v := (x1 + 1)) (lv' := [(1, .int (x1 + 1)), (0, .ref (a 0))]) hx hb d_M_goThroughGroups_63 hl (k := 1) rfl rfl (by decide) rfl (fun ls hl => ?_)
                    refine lv_goto (tgt := 21) hx hb d_M_goThroughGroups_66 (by decide) ?_
                    exact ih21 s22 (x1 + 1) H locs ls hP hD hS (lv_sub hl [1, 0] rfl) h
                  · replace h := it_f h hc
                    exact L59 s22 x1 H locs ls hP hD hS (lv_sub hl [0, 1] rfl) h
      refine lv_istore_n (lv' := [(1, .int (0 : Int32)), (0, .ref (a 0))]) hx hb d_M_goThroughGroups_20 rfl hl (by decide) rfl (fun ls hl => ?_)
      exact L21 N s15 (0 : Int32) H locs ls hP hD hS (lv_sub hl [1, 0] rfl) h
set_option maxRecDepth 100000 in
set_option maxHeartbeats 4000000 in
theorem c_M_ask (l : Launch) (D : va_G) (ca : Nat → ClassId) (g : Bool) (a : Nat → Nat) (tl : va_W) (N : Nat) (σ σ' : St) (x1 : Int32) (h : f_M_ask N σ x1 = some ((), σ')) : CtV l y_M_ask ws_M_ask rm_M_ask 0 0 D vCl (tyM ca) nwM [.ref (a 0), .int x1] (wM g ca a σ ++ tl) (wM g ca a σ' ++ tl) := by
  refine en_V (ws' := BIG) (by decide +kernel) rfl (Nat.le_of_ble_eq_true rfl) ?_
  intro p e s m below meth c A ls R args H locs hR hx hb hr hlk hml hown hB hK hN hP hD hA hS hl
  have hl : lv_has ls 4 [(0, .ref (a 0)), (1, .int x1)] := hl
  unfold f_M_ask at h
  refine lv_aload_n hx hb d_M_ask_0 rfl (lv_at hl 0 rfl) ?_
  refine lv_iconst (v := (0 : Int32)) hx hb d_M_ask_1 (by decide) ?_
  obtain ⟨s1, es1, h⟩ := nm_some h
  refine Mp_0_49 es1 hx hb hB hown (hB _ m_910) hK hP hD hS d_M_ask_2 (fun H locs hP hD hS => ?_)
  refine lv_aload_n hx hb d_M_ask_5 rfl (lv_at hl 0 rfl) ?_
  refine lv_iload_n hx hb d_M_ask_6 rfl (lv_at hl 1 rfl) ?_
  have L10 : ∀ (n : Nat) (σ : St) (H : Heap) (locs : List Loc) (ls : Array Slot), va_P D vCl (wM g ca a σ ++ tl) H → va_D A (wM g ca a σ ++ tl) → va_S A s.heap H locs → lv_has ls 4 [(0, .ref (a 0))] → f_M_ask_10 N n σ = some ((), σ') → W p l e R s m args below meth c H locs 0 0 (MQ below (qb_QV D vCl (tyM ca) (wM g ca a σ' ++ tl) A) args s 0 0 A) (F0 m 10 ls []) := by
    intro n
    induction n with
    | zero => intro σ H locs ls hP hD hS hl h; cases h
    | succ n ih10 =>
        intro σ H locs ls hP hD hS hl h
        obtain ⟨K10, eK10⟩ : ∃ K, K = f_M_ask_10 N n := ⟨_, rfl⟩
        rw [← eK10] at ih10
        replace h : f_M_ask_10_b N K10 σ = some ((), σ') := by rw [eK10]; exact h
        unfold f_M_ask_10_b at h
        refine lv_aload_n hx hb d_M_ask_10 rfl (lv_at hl 0 rfl) ?_
        refine Mg_0_49 hx hb hB hown (hB _ m_910) hK hP d_M_ask_11 ?_
        refine lv_if_le (tgt := 130) hx hb d_M_ask_14 (by decide) (fun hc => ?_) (fun hc => ?_)
        · replace h := it_t h hc
          exact rf_V (w := (fun z => wM g ca a z ++ tl)) h hx hb hr hlk hK hP hD hS d_M_ask_130
        · replace h := it_f h hc
          refine lv_aload_n hx hb d_M_ask_17 rfl (lv_at hl 0 rfl) ?_
          refine lv_dup hx hb d_M_ask_18 rfl ?_
          refine Mg_0_49 hx hb hB hown (hB _ m_910) hK hP d_M_ask_19 ?_
          refine lv_iconst (v := (1 : Int32)) hx hb d_M_ask_22 (by decide) ?_
          refine lv_isub hx hb d_M_ask_23 ?_
          obtain ⟨s2, es2, h⟩ := nm_some h
          refine Mp_0_49 es2 hx hb hB hown (hB _ m_910) hK hP hD hS d_M_ask_24 (fun H locs hP hD hS => ?_)
          refine lv_aload_n hx hb d_M_ask_27 rfl (lv_at hl 0 rfl) ?_
          refine Mg_0_50 hx hb hB hown (hB _ m_911) hK hP d_M_ask_28 ?_
          refine lv_aload_n hx hb d_M_ask_31 rfl (lv_at hl 0 rfl) ?_
          refine Mg_0_49 hx hb hB hown (hB _ m_910) hK hP d_M_ask_32 ?_
          obtain ⟨hi, h⟩ := ckb_some h
          refine Ma_31 hx hb hK hP hi d_M_ask_35 ?_
          refine lv_istore_n (lv' := [(2, .int (ga s2 24 ((gi s2 19)).toNatClampNeg)), (0, .ref (a 0))]) hx hb d_M_ask_36 rfl hl (by decide) rfl (fun ls hl => ?_)
          refine lv_iconst (v := (0 : Int32)) hx hb d_M_ask_37 (by decide) ?_
          have L39 : ∀ (n : Nat) (σ : St) (x2 : Int32) (x3 : Int32) (H : Heap) (locs : List Loc) (ls : Array Slot), va_P D vCl (wM g ca a σ ++ tl) H → va_D A (wM g ca a σ ++ tl) → va_S A s.heap H locs → lv_has ls 4 [(0, .ref (a 0)), (2, .int x2), (3, .int x3)] → f_M_ask_39 N K10 n σ x2 x3 = some ((), σ') → W p l e R s m args below meth c H locs 0 0 (MQ below (qb_QV D vCl (tyM ca) (wM g ca a σ' ++ tl) A) args s 0 0 A) (F0 m 39 ls []) := by
            intro n
            induction n with
            | zero => intro σ x2 x3 H locs ls hP hD hS hl h; cases h
            | succ n ih39 =>
                intro σ x2 x3 H locs ls hP hD hS hl h
                obtain ⟨K39, eK39⟩ : ∃ K, K = f_M_ask_39 N K10 n := ⟨_, rfl⟩
                rw [← eK39] at ih39
                replace h : f_M_ask_39_b N K10 K39 σ x2 x3 = some ((), σ') := by rw [eK39]; exact h
                unfold f_M_ask_39_b at h
                refine lv_iload_n hx hb d_M_ask_39 rfl (lv_at hl 2 rfl) ?_
                refine lv_aload_n hx hb d_M_ask_40 rfl (lv_at hl 0 rfl) ?_
                refine Mg_0_14 hx hb hB hown (hB _ m_875) hK hP d_M_ask_41 ?_
                refine lv_icmp_ge (tgt := 83) hx hb d_M_ask_44 (by decide) (fun hc => ?_) (fun hc => ?_)
                · replace h := it_t h hc
                  refine lv_aload_n hx hb d_M_ask_83 rfl (lv_at hl 0 rfl) ?_
                  refine Mg_0_6 hx hb hB hown (hB _ m_867) hK hP d_M_ask_84 ?_
                  refine lv_iload_n hx hb d_M_ask_87 rfl (lv_at hl 1 rfl) ?_
                  obtain ⟨hi, h⟩ := ckb_some h
                  refine Ma_5 hx hb hK hP hi d_M_ask_88 ?_
                  refine lv_bipush (v := (12 : Int32)) hx hb d_M_ask_89 (by decide) ?_
                  refine lv_icmp_gt (tgt := 127) hx hb d_M_ask_91 (by decide) (fun hc => ?_) (fun hc => ?_)
                  · replace h := it_t h hc
                    refine lv_goto (tgt := 10) hx hb d_M_ask_127 (by decide) ?_
                    exact ih10 σ H locs ls hP hD hS (lv_sub hl [0] rfl) h
                  · replace h := it_f h hc
                    refine lv_aload_n hx hb d_M_ask_94 rfl (lv_at hl 0 rfl) ?_
                    refine lv_aload_n hx hb d_M_ask_95 rfl (lv_at hl 0 rfl) ?_
                    refine Mg_0_7 hx hb hB hown (hB _ m_868) hK hP d_M_ask_96 ?_
                    refine lv_iload_n hx hb d_M_ask_99 rfl (lv_at hl 1 rfl) ?_
                    obtain ⟨hi, h⟩ := ckb_some h
                    refine Ma_6 hx hb hK hP hi d_M_ask_100 ?_
                    obtain ⟨r3, s4, hr3, h⟩ := bd_some h
                    cases r3
                    refine go_VV (rest := []) ⟨hx, hb, hml, hown, hB⟩ nwM_ok (c_M_push l D ca g a tl N σ s4 (ga σ 4 (x2).toNatClampNeg) hr3) (cwx_V hB m_1126 kw_M_push ⟨by rw [hR]; decide, by rw [hR]; decide⟩ rfl rfl) (va_recv hK hP (ci := 1) (q0 := 0) rfl rfl) hN hK hP hD hS hA rfl hl.1 rfl (Nat.le_of_ble_eq_true rfl) d_M_ask_101 ⟨by rw [hR]; exact Nat.le_of_ble_eq_true rfl, by rw [hR]; exact Nat.le_of_ble_eq_true rfl⟩ (fun H locs hP hD hS => ?_)
                    refine lv_aload_n hx hb d_M_ask_104 rfl (lv_at hl 0 rfl) ?_
                    refine lv_aload_n hx hb d_M_ask_105 rfl (lv_at hl 0 rfl) ?_
                    refine Mg_0_6 hx hb hB hown (hB _ m_867) hK hP d_M_ask_106 ?_
                    refine lv_iload_n hx hb d_M_ask_109 rfl (lv_at hl 1 rfl) ?_
                    obtain ⟨hi, h⟩ := ckb_some h
                    refine Ma_5 hx hb hK hP hi d_M_ask_110 ?_
                    obtain ⟨r5, s6, hr5, h⟩ := bd_some h
                    refine go_VI (rest := []) ⟨hx, hb, hml, hown, hB⟩ nwM_ok (c_M_isTwo l D ca g a tl N s4 s6 (ga s4 3 (x2).toNatClampNeg) r5 hr5) (cwx_V hB m_1053 kw_M_isTwo ⟨by rw [hR]; decide, by rw [hR]; decide⟩ rfl rfl) (va_recv hK hP (ci := 1) (q0 := 0) rfl rfl) hN hK hP hD hS hA rfl hl.1 rfl (Nat.le_of_ble_eq_true rfl) d_M_ask_111 ⟨by rw [hR]; exact Nat.le_of_ble_eq_true rfl, by rw [hR]; exact Nat.le_of_ble_eq_true rfl⟩ (fun H locs hP hD hS => ?_)
                    refine lv_if_eq (tgt := 127) hx hb d_M_ask_114 (by decide) (fun hc => ?_) (fun hc => ?_)
                    · replace h := it_t h hc
                      refine lv_goto (tgt := 10) hx hb d_M_ask_127 (by decide) ?_
                      exact ih10 s6 H locs ls hP hD hS (lv_sub hl [0] rfl) h
                    · replace h := it_f h hc
                      refine lv_aload_n hx hb d_M_ask_117 rfl (lv_at hl 0 rfl) ?_
                      refine lv_aload_n hx hb d_M_ask_118 rfl (lv_at hl 0 rfl) ?_
                      refine Mg_0_8 hx hb hB hown (hB _ m_869) hK hP d_M_ask_119 ?_
                      refine lv_iload_n hx hb d_M_ask_122 rfl (lv_at hl 1 rfl) ?_
                      obtain ⟨hi, h⟩ := ckb_some h
                      refine Ma_7 hx hb hK hP hi d_M_ask_123 ?_
                      obtain ⟨r7, s8, hr7, h⟩ := bd_some h
                      cases r7
                      refine go_VV (rest := []) ⟨hx, hb, hml, hown, hB⟩ nwM_ok (c_M_push l D ca g a tl N s6 s8 (ga s6 5 (x2).toNatClampNeg) hr7) (cwx_V hB m_1126 kw_M_push ⟨by rw [hR]; decide, by rw [hR]; decide⟩ rfl rfl) (va_recv hK hP (ci := 1) (q0 := 0) rfl rfl) hN hK hP hD hS hA rfl hl.1 rfl (Nat.le_of_ble_eq_true rfl) d_M_ask_124 ⟨by rw [hR]; exact Nat.le_of_ble_eq_true rfl, by rw [hR]; exact Nat.le_of_ble_eq_true rfl⟩ (fun H locs hP hD hS => ?_)
                      refine lv_goto (tgt := 10) hx hb d_M_ask_127 (by decide) ?_
                      exact ih10 s8 H locs ls hP hD hS (lv_sub hl [0] rfl) h
                · replace h := it_f h hc
                  refine lv_aload_n hx hb d_M_ask_47 rfl (lv_at hl 0 rfl) ?_
                  refine Mg_0_47 hx hb hB hown (hB _ m_908) hK hP d_M_ask_48 ?_
                  refine lv_iload_n hx hb d_M_ask_51 rfl (lv_at hl 2 rfl) ?_
                  refine lv_aload_n hx hb d_M_ask_52 rfl (lv_at hl 0 rfl) ?_
                  refine Mg_0_47 hx hb hB hown (hB _ m_908) hK hP d_M_ask_53 ?_
                  refine lv_iload_n hx hb d_M_ask_56 rfl (lv_at hl 2 rfl) ?_
                  obtain ⟨hi, h⟩ := ckb_some h
                  refine Ma_30 hx hb hK hP hi d_M_ask_57 ?_
                  refine lv_if_ne (tgt := 71) hx hb d_M_ask_58 (by decide) (fun hc => ?_) (fun hc => ?_)
                  · replace h := it_f h hc
                    refine lv_iconst (v := (1 : Int32)) hx hb d_M_ask_71 (by decide) ?_
                    refine lv_goto (tgt := 76) hx hb d_M_ask_72 (by decide) ?_
                    obtain ⟨hi, h⟩ := ckb_some h
                    obtain ⟨s9, es9, h⟩ := nm_some h
                    refine Ms_30 es9 hx hb hK hP hD hS hi d_M_ask_76 (fun H locs hP hD hS => ?_)
                    refine lv_iinc (v := (x3 + 1)) (lv' := [(3, .int (x3 + 1)), (0, .ref (a 0)), (2, .int x2)]) hx hb d_M_ask_77 hl (k := 2) rfl rfl (by decide) rfl (fun ls hl => ?_)
                    refine lv_goto (tgt := 39) hx hb d_M_ask_80 (by decide) ?_
                    exact ih39 s9 x2 (x3 + 1) H locs ls hP hD hS (lv_sub hl [1, 2, 0] rfl) h
                  · replace h := it_t h hc
                    refine lv_aload_n hx hb d_M_ask_61 rfl (lv_at hl 0 rfl) ?_
                    refine Mg_0_15 hx hb hB hown (hB _ m_876) hK hP d_M_ask_62 ?_
                    refine lv_iload_n hx hb d_M_ask_65 rfl (lv_at hl 2 rfl) ?_
                    obtain ⟨hi, h⟩ := ckb_some h
                    refine Ma_13 hx hb hK hP hi d_M_ask_66 ?_
                    refine lv_iload_n hx hb d_M_ask_67 rfl (lv_at hl 1 rfl) ?_
                    refine lv_icmp_ne (tgt := 75) hx hb d_M_ask_68 (by decide) (fun hc => ?_) (fun hc => ?_)
                    · replace h := it_f h hc
                      refine lv_iconst (v := (0 : Int32)) hx hb d_M_ask_75 (by decide) ?_
                      obtain ⟨hi, h⟩ := ckb_some h
                      obtain ⟨s10, es10, h⟩ := nm_some h
                      refine Ms_30 es10 hx hb hK hP hD hS hi d_M_ask_76 (fun H locs hP hD hS => ?_)
                      refine lv_iinc (v := (x3 + 1)) (lv' := [(3, .int (x3 + 1)), (0, .ref (a 0)), (2, .int x2)]) hx hb d_M_ask_77 hl (k := 2) rfl rfl (by decide) rfl (fun ls hl => ?_)
                      refine lv_goto (tgt := 39) hx hb d_M_ask_80 (by decide) ?_
                      exact ih39 s10 x2 (x3 + 1) H locs ls hP hD hS (lv_sub hl [1, 2, 0] rfl) h
                    · replace h := it_t h hc
                      refine lv_iconst (v := (1 : Int32)) hx hb d_M_ask_71 (by decide) ?_
                      refine lv_goto (tgt := 76) hx hb d_M_ask_72 (by decide) ?_
                      obtain ⟨hi, h⟩ := ckb_some h
                      obtain ⟨s11, es11, h⟩ := nm_some h
                      refine Ms_30 es11 hx hb hK hP hD hS hi d_M_ask_76 (fun H locs hP hD hS => ?_)
                      refine lv_iinc (v := (x3 + 1)) (lv' := [(3, .int (x3 + 1)), (0, .ref (a 0)), (2, .int x2)]) hx hb d_M_ask_77 hl (k := 2) rfl rfl (by decide) rfl (fun ls hl => ?_)
                      refine lv_goto (tgt := 39) hx hb d_M_ask_80 (by decide) ?_
                      exact ih39 s11 x2 (x3 + 1) H locs ls hP hD hS (lv_sub hl [1, 2, 0] rfl) h
          refine lv_istore_n (lv' := [(3, .int (0 : Int32)), (2, .int (ga s2 24 ((gi s2 19)).toNatClampNeg)), (0, .ref (a 0))]) hx hb d_M_ask_38 rfl hl (by decide) rfl (fun ls hl => ?_)
          exact L39 N s2 (ga s2 24 ((gi s2 19)).toNatClampNeg) (0 : Int32) H locs ls hP hD hS (lv_sub hl [2, 1, 0] rfl) h
  obtain ⟨r12, s13, hr12, h⟩ := bd_some h
  cases r12
  refine go_VV (rest := []) ⟨hx, hb, hml, hown, hB⟩ nwM_ok (c_M_push l D ca g a tl N s1 s13 x1 hr12) (cwx_V hB m_1126 kw_M_push ⟨by rw [hR]; decide, by rw [hR]; decide⟩ rfl rfl) (va_recv hK hP (ci := 1) (q0 := 0) rfl rfl) hN hK hP hD hS hA rfl hl.1 rfl (Nat.le_of_ble_eq_true rfl) d_M_ask_7 ⟨by rw [hR]; exact Nat.le_of_ble_eq_true rfl, by rw [hR]; exact Nat.le_of_ble_eq_true rfl⟩ (fun H locs hP hD hS => ?_)
  exact L10 N s13 H locs ls hP hD hS (lv_sub hl [0] rfl) h
set_option maxRecDepth 100000 in
set_option maxHeartbeats 4000000 in
theorem c_M_isBound (l : Launch) (D : va_G) (ca : Nat → ClassId) (g : Bool) (a : Nat → Nat) (tl : va_W) (N : Nat) (σ σ' : St) (x1 : Int32) (r : Int32) (h : f_M_isBound N σ x1 = some (r, σ')) : CtI l y_M_isBound ws_M_isBound rm_M_isBound 0 0 D vCl (tyM ca) nwM [.ref (a 0), .int x1] (wM g ca a σ ++ tl) (wM g ca a σ' ++ tl) r := by
  refine en_Z (ws' := BIG) (by decide +kernel) rfl (Nat.le_of_ble_eq_true rfl) ?_
  intro p e s m below meth c A ls R args H locs hR hx hb hr hlk hml hown hB hK hN hP hD hA hS hl
  have hl : lv_has ls 5 [(0, .ref (a 0)), (1, .int x1)] := hl
  unfold f_M_isBound at h
  refine lv_iconst (v := (1 : Int32)) hx hb d_M_isBound_0 (by decide) ?_
  refine lv_istore_n (lv' := [(2, .int (1 : Int32)), (0, .ref (a 0)), (1, .int x1)]) hx hb d_M_isBound_1 rfl hl (by decide) rfl (fun ls hl => ?_)
  refine lv_aload_n hx hb d_M_isBound_2 rfl (lv_at hl 1 rfl) ?_
  refine lv_iconst (v := (0 : Int32)) hx hb d_M_isBound_3 (by decide) ?_
  obtain ⟨s1, es1, h⟩ := nm_some h
  refine Mp_0_49 es1 hx hb hB hown (hB _ m_910) hK hP hD hS d_M_isBound_4 (fun H locs hP hD hS => ?_)
  refine lv_aload_n hx hb d_M_isBound_7 rfl (lv_at hl 1 rfl) ?_
  refine lv_iload_n hx hb d_M_isBound_8 rfl (lv_at hl 2 rfl) ?_
  have L12 : ∀ (n : Nat) (σ : St) (x2 : Int32) (H : Heap) (locs : List Loc) (ls : Array Slot), va_P D vCl (wM g ca a σ ++ tl) H → va_D A (wM g ca a σ ++ tl) → va_S A s.heap H locs → lv_has ls 5 [(0, .ref (a 0)), (2, .int x2)] → f_M_isBound_12 N n σ x2 = some (r, σ') → W p l e R s m args below meth c H locs 0 0 (MQ below (qb_QI D vCl (tyM ca) (wM g ca a σ' ++ tl) A r) args s 0 0 A) (F0 m 12 ls []) := by
    intro n
    induction n with
    | zero => intro σ x2 H locs ls hP hD hS hl h; cases h
    | succ n ih12 =>
        intro σ x2 H locs ls hP hD hS hl h
        obtain ⟨K12, eK12⟩ : ∃ K, K = f_M_isBound_12 N n := ⟨_, rfl⟩
        rw [← eK12] at ih12
        replace h : f_M_isBound_12_b N K12 σ x2 = some (r, σ') := by rw [eK12]; exact h
        unfold f_M_isBound_12_b at h
        refine lv_aload_n hx hb d_M_isBound_12 rfl (lv_at hl 0 rfl) ?_
        refine Mg_0_49 hx hb hB hown (hB _ m_910) hK hP d_M_isBound_13 ?_
        refine lv_if_le (tgt := 116) hx hb d_M_isBound_16 (by decide) (fun hc => ?_) (fun hc => ?_)
        · replace h := it_t h hc
          refine lv_iload_n hx hb d_M_isBound_116 rfl (lv_at hl 1 rfl) ?_
          obtain ⟨hi, h⟩ := ckt_some h
          exact rf_Z (w := (fun z => wM g ca a z ++ tl)) h hx hb hr hlk hK hP hD hS hi.1 d_M_isBound_117
        · replace h := it_f h hc
          refine lv_aload_n hx hb d_M_isBound_19 rfl (lv_at hl 0 rfl) ?_
          refine lv_dup hx hb d_M_isBound_20 rfl ?_
          refine Mg_0_49 hx hb hB hown (hB _ m_910) hK hP d_M_isBound_21 ?_
          refine lv_iconst (v := (1 : Int32)) hx hb d_M_isBound_24 (by decide) ?_
          refine lv_isub hx hb d_M_isBound_25 ?_
          obtain ⟨s2, es2, h⟩ := nm_some h
          refine Mp_0_49 es2 hx hb hB hown (hB _ m_910) hK hP hD hS d_M_isBound_26 (fun H locs hP hD hS => ?_)
          refine lv_aload_n hx hb d_M_isBound_29 rfl (lv_at hl 0 rfl) ?_
          refine Mg_0_50 hx hb hB hown (hB _ m_911) hK hP d_M_isBound_30 ?_
          refine lv_aload_n hx hb d_M_isBound_33 rfl (lv_at hl 0 rfl) ?_
          refine Mg_0_49 hx hb hB hown (hB _ m_910) hK hP d_M_isBound_34 ?_
          obtain ⟨hi, h⟩ := ckb_some h
          refine Ma_31 hx hb hK hP hi d_M_isBound_37 ?_
          refine lv_istore_n (lv' := [(3, .int (ga s2 24 ((gi s2 19)).toNatClampNeg)), (0, .ref (a 0)), (2, .int x2)]) hx hb d_M_isBound_38 rfl hl (by decide) rfl (fun ls hl => ?_)
          refine lv_aload_n hx hb d_M_isBound_39 rfl (lv_at hl 1 rfl) ?_
          refine Mg_0_6 hx hb hB hown (hB _ m_867) hK hP d_M_isBound_40 ?_
          refine lv_iload_n hx hb d_M_isBound_43 rfl (lv_at hl 0 rfl) ?_
          obtain ⟨hi, h⟩ := ckb_some h
          refine Ma_5 hx hb hK hP hi d_M_isBound_44 ?_
          refine lv_istore (lv' := [(4, .int (ga s2 3 ((ga s2 24 ((gi s2 19)).toNatClampNeg)).toNatClampNeg)), (3, .int (ga s2 24 ((gi s2 19)).toNatClampNeg)), (0, .ref (a 0)), (2, .int x2)]) hx hb d_M_isBound_45 hl (by decide) rfl (fun ls hl => ?_)
          refine lv_aload_n hx hb d_M_isBound_47 rfl (lv_at hl 2 rfl) ?_
          refine lv_iload_n hx hb d_M_isBound_48 rfl (lv_at hl 1 rfl) ?_
          obtain ⟨r3, s4, hr3, h⟩ := bd_some h
          refine go_VI (rest := []) ⟨hx, hb, hml, hown, hB⟩ nwM_ok (c_M_groupLike l D ca g a tl N s2 s4 (ga s2 24 ((gi s2 19)).toNatClampNeg) r3 hr3) (cwx_V hB m_1142 kw_M_groupLike ⟨by rw [hR]; decide, by rw [hR]; decide⟩ rfl rfl) (va_recv hK hP (ci := 1) (q0 := 0) rfl rfl) hN hK hP hD hS hA rfl hl.1 rfl (Nat.le_of_ble_eq_true rfl) d_M_isBound_49 ⟨by rw [hR]; exact Nat.le_of_ble_eq_true rfl, by rw [hR]; exact Nat.le_of_ble_eq_true rfl⟩ (fun H locs hP hD hS => ?_)
          refine lv_if_ge (tgt := 12) hx hb d_M_isBound_52 (by decide) (fun hc => ?_) (fun hc => ?_)
          · replace h := it_t h hc
            exact ih12 s4 x2 H locs ls hP hD hS (lv_sub hl [2, 3] rfl) h
          · replace h := it_f h hc
            refine lv_iload hx hb d_M_isBound_55 (lv_at hl 0 rfl) ?_
            refine lv_bipush (v := (30 : Int32)) hx hb d_M_isBound_57 (by decide) ?_
            refine lv_icmp_ge (tgt := 12) hx hb d_M_isBound_59 (by decide) (fun hc => ?_) (fun hc => ?_)
            · replace h := it_t h hc
              exact ih12 s4 x2 H locs ls hP hD hS (lv_sub hl [2, 3] rfl) h
            · replace h := it_f h hc
              refine lv_iload hx hb d_M_isBound_62 (lv_at hl 0 rfl) ?_
              refine lv_bipush (v := (20 : Int32)) hx hb d_M_isBound_64 (by decide) ?_
              refine lv_icmp_ne (tgt := 72) hx hb d_M_isBound_66 (by decide) (fun hc => ?_) (fun hc => ?_)
              · replace h := it_f h hc
                refine lv_iload hx hb d_M_isBound_72 (lv_at hl 0 rfl) ?_
                refine lv_bipush (v := (21 : Int32)) hx hb d_M_isBound_74 (by decide) ?_
                refine lv_icmp_ne (tgt := 84) hx hb d_M_isBound_76 (by decide) (fun hc => ?_) (fun hc => ?_)
                · replace h := it_f h hc
                  refine lv_aload_n hx hb d_M_isBound_84 rfl (lv_at hl 2 rfl) ?_
                  refine lv_aload_n hx hb d_M_isBound_85 rfl (lv_at hl 2 rfl) ?_
                  refine Mg_0_7 hx hb hB hown (hB _ m_868) hK hP d_M_isBound_86 ?_
                  refine lv_iload_n hx hb d_M_isBound_89 rfl (lv_at hl 1 rfl) ?_
                  obtain ⟨hi, h⟩ := ckb_some h
                  refine Ma_6 hx hb hK hP hi d_M_isBound_90 ?_
                  obtain ⟨r5, s6, hr5, h⟩ := bd_some h
                  cases r5
                  refine go_VV (rest := []) ⟨hx, hb, hml, hown, hB⟩ nwM_ok (c_M_push l D ca g a tl N s4 s6 (ga s4 4 ((ga s2 24 ((gi s2 19)).toNatClampNeg)).toNatClampNeg) hr5) (cwx_V hB m_1126 kw_M_push ⟨by rw [hR]; decide, by rw [hR]; decide⟩ rfl rfl) (va_recv hK hP (ci := 1) (q0 := 0) rfl rfl) hN hK hP hD hS hA rfl hl.1 rfl (Nat.le_of_ble_eq_true rfl) d_M_isBound_91 ⟨by rw [hR]; exact Nat.le_of_ble_eq_true rfl, by rw [hR]; exact Nat.le_of_ble_eq_true rfl⟩ (fun H locs hP hD hS => ?_)
                  refine lv_aload_n hx hb d_M_isBound_94 rfl (lv_at hl 2 rfl) ?_
                  refine lv_iload hx hb d_M_isBound_95 (lv_at hl 0 rfl) ?_
                  obtain ⟨r7, s8, hr7, h⟩ := bd_some h
                  refine go_VI (rest := []) ⟨hx, hb, hml, hown, hB⟩ nwM_ok (c_M_isTwo l D ca g a tl N s6 s8 (ga s2 3 ((ga s2 24 ((gi s2 19)).toNatClampNeg)).toNatClampNeg) r7 hr7) (cwx_V hB m_1053 kw_M_isTwo ⟨by rw [hR]; decide, by rw [hR]; decide⟩ rfl rfl) (va_recv hK hP (ci := 1) (q0 := 0) rfl rfl) hN hK hP hD hS hA rfl hl.1 rfl (Nat.le_of_ble_eq_true rfl) d_M_isBound_97 ⟨by rw [hR]; exact Nat.le_of_ble_eq_true rfl, by rw [hR]; exact Nat.le_of_ble_eq_true rfl⟩ (fun H locs hP hD hS => ?_)
                  refine lv_if_eq (tgt := 113) hx hb d_M_isBound_100 (by decide) (fun hc => ?_) (fun hc => ?_)
                  · replace h := it_t h hc
                    refine lv_goto (tgt := 12) hx hb d_M_isBound_113 (by decide) ?_
                    exact ih12 s8 x2 H locs ls hP hD hS (lv_sub hl [2, 3] rfl) h
                  · replace h := it_f h hc
                    refine lv_aload_n hx hb d_M_isBound_103 rfl (lv_at hl 2 rfl) ?_
                    refine lv_aload_n hx hb d_M_isBound_104 rfl (lv_at hl 2 rfl) ?_
                    refine Mg_0_8 hx hb hB hown (hB _ m_869) hK hP d_M_isBound_105 ?_
                    refine lv_iload_n hx hb d_M_isBound_108 rfl (lv_at hl 1 rfl) ?_
                    obtain ⟨hi, h⟩ := ckb_some h
                    refine Ma_7 hx hb hK hP hi d_M_isBound_109 ?_
                    obtain ⟨r9, s10, hr9, h⟩ := bd_some h
                    cases r9
                    refine go_VV (rest := []) ⟨hx, hb, hml, hown, hB⟩ nwM_ok (c_M_push l D ca g a tl N s8 s10 (ga s8 5 ((ga s2 24 ((gi s2 19)).toNatClampNeg)).toNatClampNeg) hr9) (cwx_V hB m_1126 kw_M_push ⟨by rw [hR]; decide, by rw [hR]; decide⟩ rfl rfl) (va_recv hK hP (ci := 1) (q0 := 0) rfl rfl) hN hK hP hD hS hA rfl hl.1 rfl (Nat.le_of_ble_eq_true rfl) d_M_isBound_110 ⟨by rw [hR]; exact Nat.le_of_ble_eq_true rfl, by rw [hR]; exact Nat.le_of_ble_eq_true rfl⟩ (fun H locs hP hD hS => ?_)
                    refine lv_goto (tgt := 12) hx hb d_M_isBound_113 (by decide) ?_
                    exact ih12 s10 x2 H locs ls hP hD hS (lv_sub hl [2, 3] rfl) h
                · replace h := it_t h hc
                  refine lv_iconst (v := (0 : Int32)) hx hb d_M_isBound_79 (by decide) ?_
                  refine lv_istore_n (lv' := [(2, .int (0 : Int32)), (4, .int (ga s2 3 ((ga s2 24 ((gi s2 19)).toNatClampNeg)).toNatClampNeg)), (3, .int (ga s2 24 ((gi s2 19)).toNatClampNeg)), (0, .ref (a 0))]) hx hb d_M_isBound_80 rfl hl (by decide) rfl (fun ls hl => ?_)
                  refine lv_goto (tgt := 12) hx hb d_M_isBound_81 (by decide) ?_
                  exact ih12 s4 (0 : Int32) H locs ls hP hD hS (lv_sub hl [3, 0] rfl) h
              · replace h := it_t h hc
                refine lv_goto (tgt := 12) hx hb d_M_isBound_69 (by decide) ?_
                exact ih12 s4 x2 H locs ls hP hD hS (lv_sub hl [2, 3] rfl) h
  obtain ⟨r11, s12, hr11, h⟩ := bd_some h
  cases r11
  refine go_VV (rest := []) ⟨hx, hb, hml, hown, hB⟩ nwM_ok (c_M_push l D ca g a tl N s1 s12 x1 hr11) (cwx_V hB m_1126 kw_M_push ⟨by rw [hR]; decide, by rw [hR]; decide⟩ rfl rfl) (va_recv hK hP (ci := 1) (q0 := 0) rfl rfl) hN hK hP hD hS hA rfl hl.1 rfl (Nat.le_of_ble_eq_true rfl) d_M_isBound_9 ⟨by rw [hR]; exact Nat.le_of_ble_eq_true rfl, by rw [hR]; exact Nat.le_of_ble_eq_true rfl⟩ (fun H locs hP hD hS => ?_)
  exact L12 N s12 (1 : Int32) H locs ls hP hD hS (lv_sub hl [1, 0] rfl) h
set_option maxRecDepth 100000 in
set_option maxHeartbeats 4000000 in
theorem c_M_areAllBound (l : Launch) (D : va_G) (ca : Nat → ClassId) (g : Bool) (a : Nat → Nat) (tl : va_W) (N : Nat) (σ σ' : St) (r : Int32) (h : f_M_areAllBound N σ = some (r, σ')) : CtI l y_M_areAllBound ws_M_areAllBound rm_M_areAllBound 0 0 D vCl (tyM ca) nwM [.ref (a 0)] (wM g ca a σ ++ tl) (wM g ca a σ' ++ tl) r := by
  refine en_Z (ws' := BIG) (by decide +kernel) rfl (Nat.le_of_ble_eq_true rfl) ?_
  intro p e s m below meth c A ls R args H locs hR hx hb hr hlk hml hown hB hK hN hP hD hA hS hl
  have hl : lv_has ls 3 [(0, .ref (a 0))] := hl
  unfold f_M_areAllBound at h
  refine lv_aload_n hx hb d_M_areAllBound_0 rfl (lv_at hl 0 rfl) ?_
  refine Mg_0_21 hx hb hB hown (hB _ m_882) hK hP d_M_areAllBound_1 ?_
  refine lv_if_lt (tgt := 18) hx hb d_M_areAllBound_4 (by decide) (fun hc => ?_) (fun hc => ?_)
  · replace h := it_t h hc
    refine lv_iconst (v := (1 : Int32)) hx hb d_M_areAllBound_18 (by decide) ?_
    refine lv_goto (tgt := 23) hx hb d_M_areAllBound_19 (by decide) ?_
    refine lv_istore_n (lv' := [(1, .int (1 : Int32)), (0, .ref (a 0))]) hx hb d_M_areAllBound_23 rfl hl (by decide) rfl (fun ls hl => ?_)
    refine lv_iconst (v := (0 : Int32)) hx hb d_M_areAllBound_24 (by decide) ?_
    have L26 : ∀ (n : Nat) (σ : St) (x1 : Int32) (x2 : Int32) (H : Heap) (locs : List Loc) (ls : Array Slot), va_P D vCl (wM g ca a σ ++ tl) H → va_D A (wM g ca a σ ++ tl) → va_S A s.heap H locs → lv_has ls 3 [(0, .ref (a 0)), (1, .int x1), (2, .int x2)] → f_M_areAllBound_26 N n σ x1 x2 = some (r, σ') → W p l e R s m args below meth c H locs 0 0 (MQ below (qb_QI D vCl (tyM ca) (wM g ca a σ' ++ tl) A r) args s 0 0 A) (F0 m 26 ls []) := by
      intro n
      induction n with
      | zero => intro σ x1 x2 H locs ls hP hD hS hl h; cases h
      | succ n ih26 =>
          intro σ x1 x2 H locs ls hP hD hS hl h
          obtain ⟨K26, eK26⟩ : ∃ K, K = f_M_areAllBound_26 N n := ⟨_, rfl⟩
          rw [← eK26] at ih26
          replace h : f_M_areAllBound_26_b N K26 σ x1 x2 = some (r, σ') := by rw [eK26]; exact h
          unfold f_M_areAllBound_26_b at h
          refine lv_iload_n hx hb d_M_areAllBound_26 rfl (lv_at hl 2 rfl) ?_
          refine lv_aload_n hx hb d_M_areAllBound_27 rfl (lv_at hl 0 rfl) ?_
          refine Mg_0_24 hx hb hB hown (hB _ m_885) hK hP d_M_areAllBound_28 ?_
          refine lv_icmp_ge (tgt := 63) hx hb d_M_areAllBound_31 (by decide) (fun hc => ?_) (fun hc => ?_)
          · replace h := it_t h hc
            refine lv_iload_n hx hb d_M_areAllBound_63 rfl (lv_at hl 1 rfl) ?_
            obtain ⟨hi, h⟩ := ckt_some h
            exact rf_Z (w := (fun z => wM g ca a z ++ tl)) h hx hb hr hlk hK hP hD hS hi.1 d_M_areAllBound_64
          · replace h := it_f h hc
            refine lv_iload_n hx hb d_M_areAllBound_34 rfl (lv_at hl 1 rfl) ?_
            refine lv_if_eq (tgt := 55) hx hb d_M_areAllBound_35 (by decide) (fun hc => ?_) (fun hc => ?_)
            · replace h := it_t h hc
              refine lv_iconst (v := (0 : Int32)) hx hb d_M_areAllBound_55 (by decide) ?_
              refine lv_istore_n (lv' := [(1, .int (0 : Int32)), (0, .ref (a 0)), (2, .int x2)]) hx hb d_M_areAllBound_56 rfl hl (by decide) rfl (fun ls hl => ?_)
              refine lv_iinc (v := (x2 + 1)) (lv' := [(2, .int (x2 + 1)), (1, .int (0 : Int32)), (0, .ref (a 0))]) hx hb d_M_areAllBound_57 hl (k := 2) rfl rfl (by decide) rfl (fun ls hl => ?_)
              refine lv_goto (tgt := 26) hx hb d_M_areAllBound_60 (by decide) ?_
              exact ih26 σ (0 : Int32) (x2 + 1) H locs ls hP hD hS (lv_sub hl [2, 1, 0] rfl) h
            · replace h := it_f h hc
              refine lv_aload_n hx hb d_M_areAllBound_38 rfl (lv_at hl 0 rfl) ?_
              refine lv_aload_n hx hb d_M_areAllBound_39 rfl (lv_at hl 0 rfl) ?_
              refine Mg_0_25 hx hb hB hown (hB _ m_886) hK hP d_M_areAllBound_40 ?_
              refine lv_iload_n hx hb d_M_areAllBound_43 rfl (lv_at hl 2 rfl) ?_
              obtain ⟨hi, h⟩ := ckb_some h
              refine Ma_18 hx hb hK hP hi d_M_areAllBound_44 ?_
              obtain ⟨r1, s2, hr1, h⟩ := bd_some h
              refine go_VI (rest := []) ⟨hx, hb, hml, hown, hB⟩ nwM_ok (c_M_isBound l D ca g a tl N σ s2 (ga σ 15 (x2).toNatClampNeg) r1 hr1) (cwx_V hB m_1138 kw_M_isBound ⟨by rw [hR]; decide, by rw [hR]; decide⟩ rfl rfl) (va_recv hK hP (ci := 1) (q0 := 0) rfl rfl) hN hK hP hD hS hA rfl hl.1 rfl (Nat.le_of_ble_eq_true rfl) d_M_areAllBound_45 ⟨by rw [hR]; exact Nat.le_of_ble_eq_true rfl, by rw [hR]; exact Nat.le_of_ble_eq_true rfl⟩ (fun H locs hP hD hS => ?_)
              refine lv_if_eq (tgt := 55) hx hb d_M_areAllBound_48 (by decide) (fun hc => ?_) (fun hc => ?_)
              · replace h := it_t h hc
                refine lv_iconst (v := (0 : Int32)) hx hb d_M_areAllBound_55 (by decide) ?_
                refine lv_istore_n (lv' := [(1, .int (0 : Int32)), (0, .ref (a 0)), (2, .int x2)]) hx hb d_M_areAllBound_56 rfl hl (by decide) rfl (fun ls hl => ?_)
                refine lv_iinc (v := (x2 + 1)) (lv' := [(2, .int (x2 + 1)), (1, .int (0 : Int32)), (0, .ref (a 0))]) hx hb d_M_areAllBound_57 hl (k := 2) rfl rfl (by decide) rfl (fun ls hl => ?_)
                refine lv_goto (tgt := 26) hx hb d_M_areAllBound_60 (by decide) ?_
                exact ih26 s2 (0 : Int32) (x2 + 1) H locs ls hP hD hS (lv_sub hl [2, 1, 0] rfl) h
              · replace h := it_f h hc
                refine lv_iconst (v := (1 : Int32)) hx hb d_M_areAllBound_51 (by decide) ?_
                refine lv_goto (tgt := 56) hx hb d_M_areAllBound_52 (by decide) ?_
                refine lv_istore_n (lv' := [(1, .int (1 : Int32)), (0, .ref (a 0)), (2, .int x2)]) hx hb d_M_areAllBound_56 rfl hl (by decide) rfl (fun ls hl => ?_)
                refine lv_iinc (v := (x2 + 1)) (lv' := [(2, .int (x2 + 1)), (1, .int (1 : Int32)), (0, .ref (a 0))]) hx hb d_M_areAllBound_57 hl (k := 2) rfl rfl (by decide) rfl (fun ls hl => ?_)
                refine lv_goto (tgt := 26) hx hb d_M_areAllBound_60 (by decide) ?_
                exact ih26 s2 (1 : Int32) (x2 + 1) H locs ls hP hD hS (lv_sub hl [2, 1, 0] rfl) h
    refine lv_istore_n (lv' := [(2, .int (0 : Int32)), (1, .int (1 : Int32)), (0, .ref (a 0))]) hx hb d_M_areAllBound_25 rfl hl (by decide) rfl (fun ls hl => ?_)
    exact L26 N σ (1 : Int32) (0 : Int32) H locs ls hP hD hS (lv_sub hl [2, 1, 0] rfl) h
  · replace h := it_f h hc
    refine lv_aload_n hx hb d_M_areAllBound_7 rfl (lv_at hl 0 rfl) ?_
    refine lv_aload_n hx hb d_M_areAllBound_8 rfl (lv_at hl 0 rfl) ?_
    refine Mg_0_21 hx hb hB hown (hB _ m_882) hK hP d_M_areAllBound_9 ?_
    obtain ⟨r3, s4, hr3, h⟩ := bd_some h
    refine go_VI (rest := []) ⟨hx, hb, hml, hown, hB⟩ nwM_ok (c_M_isBound l D ca g a tl N σ s4 (gi σ 5) r3 hr3) (cwx_V hB m_1138 kw_M_isBound ⟨by rw [hR]; decide, by rw [hR]; decide⟩ rfl rfl) (va_recv hK hP (ci := 1) (q0 := 0) rfl rfl) hN hK hP hD hS hA rfl hl.1 rfl (Nat.le_of_ble_eq_true rfl) d_M_areAllBound_12 ⟨by rw [hR]; exact Nat.le_of_ble_eq_true rfl, by rw [hR]; exact Nat.le_of_ble_eq_true rfl⟩ (fun H locs hP hD hS => ?_)
    refine lv_if_eq (tgt := 22) hx hb d_M_areAllBound_15 (by decide) (fun hc => ?_) (fun hc => ?_)
    · replace h := it_t h hc
      refine lv_iconst (v := (0 : Int32)) hx hb d_M_areAllBound_22 (by decide) ?_
      refine lv_istore_n (lv' := [(1, .int (0 : Int32)), (0, .ref (a 0))]) hx hb d_M_areAllBound_23 rfl hl (by decide) rfl (fun ls hl => ?_)
      refine lv_iconst (v := (0 : Int32)) hx hb d_M_areAllBound_24 (by decide) ?_
      have L26 : ∀ (n : Nat) (σ : St) (x1 : Int32) (x2 : Int32) (H : Heap) (locs : List Loc) (ls : Array Slot), va_P D vCl (wM g ca a σ ++ tl) H → va_D A (wM g ca a σ ++ tl) → va_S A s.heap H locs → lv_has ls 3 [(0, .ref (a 0)), (1, .int x1), (2, .int x2)] → f_M_areAllBound_26 N n σ x1 x2 = some (r, σ') → W p l e R s m args below meth c H locs 0 0 (MQ below (qb_QI D vCl (tyM ca) (wM g ca a σ' ++ tl) A r) args s 0 0 A) (F0 m 26 ls []) := by
        intro n
        induction n with
        | zero => intro σ x1 x2 H locs ls hP hD hS hl h; cases h
        | succ n ih26 =>
            intro σ x1 x2 H locs ls hP hD hS hl h
            obtain ⟨K26, eK26⟩ : ∃ K, K = f_M_areAllBound_26 N n := ⟨_, rfl⟩
            rw [← eK26] at ih26
            replace h : f_M_areAllBound_26_b N K26 σ x1 x2 = some (r, σ') := by rw [eK26]; exact h
            unfold f_M_areAllBound_26_b at h
            refine lv_iload_n hx hb d_M_areAllBound_26 rfl (lv_at hl 2 rfl) ?_
            refine lv_aload_n hx hb d_M_areAllBound_27 rfl (lv_at hl 0 rfl) ?_
            refine Mg_0_24 hx hb hB hown (hB _ m_885) hK hP d_M_areAllBound_28 ?_
            refine lv_icmp_ge (tgt := 63) hx hb d_M_areAllBound_31 (by decide) (fun hc => ?_) (fun hc => ?_)
            · replace h := it_t h hc
              refine lv_iload_n hx hb d_M_areAllBound_63 rfl (lv_at hl 1 rfl) ?_
              obtain ⟨hi, h⟩ := ckt_some h
              exact rf_Z (w := (fun z => wM g ca a z ++ tl)) h hx hb hr hlk hK hP hD hS hi.1 d_M_areAllBound_64
            · replace h := it_f h hc
              refine lv_iload_n hx hb d_M_areAllBound_34 rfl (lv_at hl 1 rfl) ?_
              refine lv_if_eq (tgt := 55) hx hb d_M_areAllBound_35 (by decide) (fun hc => ?_) (fun hc => ?_)
              · replace h := it_t h hc
                refine lv_iconst (v := (0 : Int32)) hx hb d_M_areAllBound_55 (by decide) ?_
                refine lv_istore_n (lv' := [(1, .int (0 : Int32)), (0, .ref (a 0)), (2, .int x2)]) hx hb d_M_areAllBound_56 rfl hl (by decide) rfl (fun ls hl => ?_)
                refine lv_iinc (v := (x2 + 1)) (lv' := [(2, .int (x2 + 1)), (1, .int (0 : Int32)), (0, .ref (a 0))]) hx hb d_M_areAllBound_57 hl (k := 2) rfl rfl (by decide) rfl (fun ls hl => ?_)
                refine lv_goto (tgt := 26) hx hb d_M_areAllBound_60 (by decide) ?_
                exact ih26 σ (0 : Int32) (x2 + 1) H locs ls hP hD hS (lv_sub hl [2, 1, 0] rfl) h
              · replace h := it_f h hc
                refine lv_aload_n hx hb d_M_areAllBound_38 rfl (lv_at hl 0 rfl) ?_
                refine lv_aload_n hx hb d_M_areAllBound_39 rfl (lv_at hl 0 rfl) ?_
                refine Mg_0_25 hx hb hB hown (hB _ m_886) hK hP d_M_areAllBound_40 ?_
                refine lv_iload_n hx hb d_M_areAllBound_43 rfl (lv_at hl 2 rfl) ?_
                obtain ⟨hi, h⟩ := ckb_some h
                refine Ma_18 hx hb hK hP hi d_M_areAllBound_44 ?_
                obtain ⟨r5, s6, hr5, h⟩ := bd_some h
                refine go_VI (rest := []) ⟨hx, hb, hml, hown, hB⟩ nwM_ok (c_M_isBound l D ca g a tl N σ s6 (ga σ 15 (x2).toNatClampNeg) r5 hr5) (cwx_V hB m_1138 kw_M_isBound ⟨by rw [hR]; decide, by rw [hR]; decide⟩ rfl rfl) (va_recv hK hP (ci := 1) (q0 := 0) rfl rfl) hN hK hP hD hS hA rfl hl.1 rfl (Nat.le_of_ble_eq_true rfl) d_M_areAllBound_45 ⟨by rw [hR]; exact Nat.le_of_ble_eq_true rfl, by rw [hR]; exact Nat.le_of_ble_eq_true rfl⟩ (fun H locs hP hD hS => ?_)
                refine lv_if_eq (tgt := 55) hx hb d_M_areAllBound_48 (by decide) (fun hc => ?_) (fun hc => ?_)
                · replace h := it_t h hc
                  refine lv_iconst (v := (0 : Int32)) hx hb d_M_areAllBound_55 (by decide) ?_
                  refine lv_istore_n (lv' := [(1, .int (0 : Int32)), (0, .ref (a 0)), (2, .int x2)]) hx hb d_M_areAllBound_56 rfl hl (by decide) rfl (fun ls hl => ?_)
                  refine lv_iinc (v := (x2 + 1)) (lv' := [(2, .int (x2 + 1)), (1, .int (0 : Int32)), (0, .ref (a 0))]) hx hb d_M_areAllBound_57 hl (k := 2) rfl rfl (by decide) rfl (fun ls hl => ?_)
                  refine lv_goto (tgt := 26) hx hb d_M_areAllBound_60 (by decide) ?_
                  exact ih26 s6 (0 : Int32) (x2 + 1) H locs ls hP hD hS (lv_sub hl [2, 1, 0] rfl) h
                · replace h := it_f h hc
                  refine lv_iconst (v := (1 : Int32)) hx hb d_M_areAllBound_51 (by decide) ?_
                  refine lv_goto (tgt := 56) hx hb d_M_areAllBound_52 (by decide) ?_
                  refine lv_istore_n (lv' := [(1, .int (1 : Int32)), (0, .ref (a 0)), (2, .int x2)]) hx hb d_M_areAllBound_56 rfl hl (by decide) rfl (fun ls hl => ?_)
                  refine lv_iinc (v := (x2 + 1)) (lv' := [(2, .int (x2 + 1)), (1, .int (1 : Int32)), (0, .ref (a 0))]) hx hb d_M_areAllBound_57 hl (k := 2) rfl rfl (by decide) rfl (fun ls hl => ?_)
                  refine lv_goto (tgt := 26) hx hb d_M_areAllBound_60 (by decide) ?_
                  exact ih26 s6 (1 : Int32) (x2 + 1) H locs ls hP hD hS (lv_sub hl [2, 1, 0] rfl) h
      refine lv_istore_n (lv' := [(2, .int (0 : Int32)), (1, .int (0 : Int32)), (0, .ref (a 0))]) hx hb d_M_areAllBound_25 rfl hl (by decide) rfl (fun ls hl => ?_)
      exact L26 N s4 (0 : Int32) (0 : Int32) H locs ls hP hD hS (lv_sub hl [2, 1, 0] rfl) h
    · replace h := it_f h hc
      refine lv_iconst (v := (1 : Int32)) hx hb d_M_areAllBound_18 (by decide) ?_
      refine lv_goto (tgt := 23) hx hb d_M_areAllBound_19 (by decide) ?_
      refine lv_istore_n (lv' := [(1, .int (1 : Int32)), (0, .ref (a 0))]) hx hb d_M_areAllBound_23 rfl hl (by decide) rfl (fun ls hl => ?_)
      refine lv_iconst (v := (0 : Int32)) hx hb d_M_areAllBound_24 (by decide) ?_
      have L26 : ∀ (n : Nat) (σ : St) (x1 : Int32) (x2 : Int32) (H : Heap) (locs : List Loc) (ls : Array Slot), va_P D vCl (wM g ca a σ ++ tl) H → va_D A (wM g ca a σ ++ tl) → va_S A s.heap H locs → lv_has ls 3 [(0, .ref (a 0)), (1, .int x1), (2, .int x2)] → f_M_areAllBound_26 N n σ x1 x2 = some (r, σ') → W p l e R s m args below meth c H locs 0 0 (MQ below (qb_QI D vCl (tyM ca) (wM g ca a σ' ++ tl) A r) args s 0 0 A) (F0 m 26 ls []) := by
        intro n
        induction n with
        | zero => intro σ x1 x2 H locs ls hP hD hS hl h; cases h
        | succ n ih26 =>
            intro σ x1 x2 H locs ls hP hD hS hl h
            obtain ⟨K26, eK26⟩ : ∃ K, K = f_M_areAllBound_26 N n := ⟨_, rfl⟩
            rw [← eK26] at ih26
            replace h : f_M_areAllBound_26_b N K26 σ x1 x2 = some (r, σ') := by rw [eK26]; exact h
            unfold f_M_areAllBound_26_b at h
            refine lv_iload_n hx hb d_M_areAllBound_26 rfl (lv_at hl 2 rfl) ?_
            refine lv_aload_n hx hb d_M_areAllBound_27 rfl (lv_at hl 0 rfl) ?_
            refine Mg_0_24 hx hb hB hown (hB _ m_885) hK hP d_M_areAllBound_28 ?_
            refine lv_icmp_ge (tgt := 63) hx hb d_M_areAllBound_31 (by decide) (fun hc => ?_) (fun hc => ?_)
            · replace h := it_t h hc
              refine lv_iload_n hx hb d_M_areAllBound_63 rfl (lv_at hl 1 rfl) ?_
              obtain ⟨hi, h⟩ := ckt_some h
              exact rf_Z (w := (fun z => wM g ca a z ++ tl)) h hx hb hr hlk hK hP hD hS hi.1 d_M_areAllBound_64
            · replace h := it_f h hc
              refine lv_iload_n hx hb d_M_areAllBound_34 rfl (lv_at hl 1 rfl) ?_
              refine lv_if_eq (tgt := 55) hx hb d_M_areAllBound_35 (by decide) (fun hc => ?_) (fun hc => ?_)
              · replace h := it_t h hc
                refine lv_iconst (v := (0 : Int32)) hx hb d_M_areAllBound_55 (by decide) ?_
                refine lv_istore_n (lv' := [(1, .int (0 : Int32)), (0, .ref (a 0)), (2, .int x2)]) hx hb d_M_areAllBound_56 rfl hl (by decide) rfl (fun ls hl => ?_)
                refine lv_iinc (v := (x2 + 1)) (lv' := [(2, .int (x2 + 1)), (1, .int (0 : Int32)), (0, .ref (a 0))]) hx hb d_M_areAllBound_57 hl (k := 2) rfl rfl (by decide) rfl (fun ls hl => ?_)
                refine lv_goto (tgt := 26) hx hb d_M_areAllBound_60 (by decide) ?_
                exact ih26 σ (0 : Int32) (x2 + 1) H locs ls hP hD hS (lv_sub hl [2, 1, 0] rfl) h
              · replace h := it_f h hc
                refine lv_aload_n hx hb d_M_areAllBound_38 rfl (lv_at hl 0 rfl) ?_
                refine lv_aload_n hx hb d_M_areAllBound_39 rfl (lv_at hl 0 rfl) ?_
                refine Mg_0_25 hx hb hB hown (hB _ m_886) hK hP d_M_areAllBound_40 ?_
                refine lv_iload_n hx hb d_M_areAllBound_43 rfl (lv_at hl 2 rfl) ?_
                obtain ⟨hi, h⟩ := ckb_some h
                refine Ma_18 hx hb hK hP hi d_M_areAllBound_44 ?_
                obtain ⟨r7, s8, hr7, h⟩ := bd_some h
                refine go_VI (rest := []) ⟨hx, hb, hml, hown, hB⟩ nwM_ok (c_M_isBound l D ca g a tl N σ s8 (ga σ 15 (x2).toNatClampNeg) r7 hr7) (cwx_V hB m_1138 kw_M_isBound ⟨by rw [hR]; decide, by rw [hR]; decide⟩ rfl rfl) (va_recv hK hP (ci := 1) (q0 := 0) rfl rfl) hN hK hP hD hS hA rfl hl.1 rfl (Nat.le_of_ble_eq_true rfl) d_M_areAllBound_45 ⟨by rw [hR]; exact Nat.le_of_ble_eq_true rfl, by rw [hR]; exact Nat.le_of_ble_eq_true rfl⟩ (fun H locs hP hD hS => ?_)
                refine lv_if_eq (tgt := 55) hx hb d_M_areAllBound_48 (by decide) (fun hc => ?_) (fun hc => ?_)
                · replace h := it_t h hc
                  refine lv_iconst (v := (0 : Int32)) hx hb d_M_areAllBound_55 (by decide) ?_
                  refine lv_istore_n (lv' := [(1, .int (0 : Int32)), (0, .ref (a 0)), (2, .int x2)]) hx hb d_M_areAllBound_56 rfl hl (by decide) rfl (fun ls hl => ?_)
                  refine lv_iinc (v := (x2 + 1)) (lv' := [(2, .int (x2 + 1)), (1, .int (0 : Int32)), (0, .ref (a 0))]) hx hb d_M_areAllBound_57 hl (k := 2) rfl rfl (by decide) rfl (fun ls hl => ?_)
                  refine lv_goto (tgt := 26) hx hb d_M_areAllBound_60 (by decide) ?_
                  exact ih26 s8 (0 : Int32) (x2 + 1) H locs ls hP hD hS (lv_sub hl [2, 1, 0] rfl) h
                · replace h := it_f h hc
                  refine lv_iconst (v := (1 : Int32)) hx hb d_M_areAllBound_51 (by decide) ?_
                  refine lv_goto (tgt := 56) hx hb d_M_areAllBound_52 (by decide) ?_
                  refine lv_istore_n (lv' := [(1, .int (1 : Int32)), (0, .ref (a 0)), (2, .int x2)]) hx hb d_M_areAllBound_56 rfl hl (by decide) rfl (fun ls hl => ?_)
                  refine lv_iinc (v := (x2 + 1)) (lv' := [(2, .int (x2 + 1)), (1, .int (1 : Int32)), (0, .ref (a 0))]) hx hb d_M_areAllBound_57 hl (k := 2) rfl rfl (by decide) rfl (fun ls hl => ?_)
                  refine lv_goto (tgt := 26) hx hb d_M_areAllBound_60 (by decide) ?_
                  exact ih26 s8 (1 : Int32) (x2 + 1) H locs ls hP hD hS (lv_sub hl [2, 1, 0] rfl) h
      refine lv_istore_n (lv' := [(2, .int (0 : Int32)), (1, .int (1 : Int32)), (0, .ref (a 0))]) hx hb d_M_areAllBound_25 rfl hl (by decide) rfl (fun ls hl => ?_)
      exact L26 N s4 (1 : Int32) (0 : Int32) H locs ls hP hD hS (lv_sub hl [2, 1, 0] rfl) h
