set_option maxRecDepth 100000 in
set_option maxHeartbeats 4000000 in
theorem c_M_areAggregatesRight (l : Launch) (D : va_G) (ca : Nat → ClassId) (g : Bool) (a : Nat → Nat) (tl : va_W) (N : Nat) (σ σ' : St) (r : Int32) (h : f_M_areAggregatesRight N σ = some (r, σ')) : CtI l y_M_areAggregatesRight ws_M_areAggregatesRight rm_M_areAggregatesRight 0 0 D vCl (tyM ca) nwM [.ref (a 0)] (wM g ca a σ ++ tl) (wM g ca a σ' ++ tl) r := by
  refine en_Z (ws' := BIG) (by decide +kernel) rfl (Nat.le_of_ble_eq_true rfl) ?_
  intro p e s m below meth c A ls R args H locs hR hx hb hr hlk hml hown hB hK hN hP hD hA hS hl
  have hl : lv_has ls 3 [(0, .ref (a 0))] := hl
  unfold f_M_areAggregatesRight at h
  refine lv_aload_n hx hb d_M_areAggregatesRight_0 rfl (lv_at hl 0 rfl) ?_
  refine Mg_0_20 hx hb hB hown (hB _ m_881) hK hP d_M_areAggregatesRight_1 ?_
  refine lv_if_lt (tgt := 19) hx hb d_M_areAggregatesRight_4 (by decide) (fun hc => ?_) (fun hc => ?_)
  · replace h := it_t h hc
    refine lv_iconst (v := (1 : Int32)) hx hb d_M_areAggregatesRight_19 (by decide) ?_
    refine lv_goto (tgt := 24) hx hb d_M_areAggregatesRight_20 (by decide) ?_
    refine lv_istore_n (lv' := [(1, .int (1 : Int32)), (0, .ref (a 0))]) hx hb d_M_areAggregatesRight_24 rfl hl (by decide) rfl (fun ls hl => ?_)
    refine lv_iconst (v := (0 : Int32)) hx hb d_M_areAggregatesRight_25 (by decide) ?_
    have L27 : ∀ (n : Nat) (σ : St) (x1 : Int32) (x2 : Int32) (H : Heap) (locs : List Loc) (ls : Array Slot), va_P D vCl (wM g ca a σ ++ tl) H → va_D A (wM g ca a σ ++ tl) → va_S A s.heap H locs → lv_has ls 3 [(0, .ref (a 0)), (1, .int x1), (2, .int x2)] → f_M_areAggregatesRight_27 N n σ x1 x2 = some (r, σ') → W p l e R s m args below meth c H locs 0 0 (MQ below (qb_QI D vCl (tyM ca) (wM g ca a σ' ++ tl) A r) args s 0 0 A) (F0 m 27 ls []) := by
      intro n
      induction n with
      | zero => intro σ x1 x2 H locs ls hP hD hS hl h; cases h
      | succ n ih27 =>
          intro σ x1 x2 H locs ls hP hD hS hl h
          obtain ⟨K27, eK27⟩ : ∃ K, K = f_M_areAggregatesRight_27 N n := ⟨_, rfl⟩
          rw [← eK27] at ih27
          replace h : f_M_areAggregatesRight_27_b N K27 σ x1 x2 = some (r, σ') := by rw [eK27]; exact h
          unfold f_M_areAggregatesRight_27_b at h
          refine lv_iload_n hx hb d_M_areAggregatesRight_27 rfl (lv_at hl 2 rfl) ?_
          refine lv_aload_n hx hb d_M_areAggregatesRight_28 rfl (lv_at hl 0 rfl) ?_
          refine Mg_0_16 hx hb hB hown (hB _ m_877) hK hP d_M_areAggregatesRight_29 ?_
          refine lv_icmp_ge (tgt := 74) hx hb d_M_areAggregatesRight_32 (by decide) (fun hc => ?_) (fun hc => ?_)
          · replace h := it_t h hc
            refine lv_iconst (v := (0 : Int32)) hx hb d_M_areAggregatesRight_74 (by decide) ?_
            have L76 : ∀ (n : Nat) (σ : St) (x1 : Int32) (x2 : Int32) (H : Heap) (locs : List Loc) (ls : Array Slot), va_P D vCl (wM g ca a σ ++ tl) H → va_D A (wM g ca a σ ++ tl) → va_S A s.heap H locs → lv_has ls 3 [(0, .ref (a 0)), (1, .int x1), (2, .int x2)] → f_M_areAggregatesRight_76 N n σ x1 x2 = some (r, σ') → W p l e R s m args below meth c H locs 0 0 (MQ below (qb_QI D vCl (tyM ca) (wM g ca a σ' ++ tl) A r) args s 0 0 A) (F0 m 76 ls []) := by
              intro n
              induction n with
              | zero => intro σ x1 x2 H locs ls hP hD hS hl h; cases h
              | succ n ih76 =>
                  intro σ x1 x2 H locs ls hP hD hS hl h
                  obtain ⟨K76, eK76⟩ : ∃ K, K = f_M_areAggregatesRight_76 N n := ⟨_, rfl⟩
                  rw [← eK76] at ih76
                  replace h : f_M_areAggregatesRight_76_b N K76 σ x1 x2 = some (r, σ') := by rw [eK76]; exact h
                  unfold f_M_areAggregatesRight_76_b at h
                  refine lv_iload_n hx hb d_M_areAggregatesRight_76 rfl (lv_at hl 2 rfl) ?_
                  refine lv_aload_n hx hb d_M_areAggregatesRight_77 rfl (lv_at hl 0 rfl) ?_
                  refine Mg_0_22 hx hb hB hown (hB _ m_883) hK hP d_M_areAggregatesRight_78 ?_
                  refine lv_icmp_ge (tgt := 114) hx hb d_M_areAggregatesRight_81 (by decide) (fun hc => ?_) (fun hc => ?_)
                  · replace h := it_t h hc
                    refine lv_iload_n hx hb d_M_areAggregatesRight_114 rfl (lv_at hl 1 rfl) ?_
                    obtain ⟨hi, h⟩ := ckt_some h
                    exact rf_Z (w := (fun z => wM g ca a z ++ tl)) h hx hb hr hlk hK hP hD hS hi.1 d_M_areAggregatesRight_115
                  · replace h := it_f h hc
                    refine lv_iload_n hx hb d_M_areAggregatesRight_84 rfl (lv_at hl 1 rfl) ?_
                    refine lv_if_eq (tgt := 106) hx hb d_M_areAggregatesRight_85 (by decide) (fun hc => ?_) (fun hc => ?_)
                    · replace h := it_t h hc
                      refine lv_iconst (v := (0 : Int32)) hx hb d_M_areAggregatesRight_106 (by decide) ?_
                      refine lv_istore_n (lv' := [(1, .int (0 : Int32)), (0, .ref (a 0)), (2, .int x2)]) hx hb d_M_areAggregatesRight_107 rfl hl (by decide) rfl (fun ls hl => ?_)
                      refine lv_iinc (v := (x2 + 1)) (lv' := [(2, .int (x2 + 1)), (1, .int (0 : Int32)), (0, .ref (a 0))]) hx hb d_M_areAggregatesRight_108 hl (k := 2) rfl rfl (by decide) rfl (fun ls hl => ?_)
                      refine lv_goto (tgt := 76) hx hb d_M_areAggregatesRight_111 (by decide) ?_
                      exact ih76 σ (0 : Int32) (x2 + 1) H locs ls hP hD hS (lv_sub hl [2, 1, 0] rfl) h
                    · replace h := it_f h hc
                      refine lv_aload_n hx hb d_M_areAggregatesRight_88 rfl (lv_at hl 0 rfl) ?_
                      refine Mg_0_12 hx hb hB hown (hB _ m_873) hK hP d_M_areAggregatesRight_89 ?_
                      refine lv_aload_n hx hb d_M_areAggregatesRight_92 rfl (lv_at hl 0 rfl) ?_
                      refine Mg_0_23 hx hb hB hown (hB _ m_884) hK hP d_M_areAggregatesRight_93 ?_
                      refine lv_iload_n hx hb d_M_areAggregatesRight_96 rfl (lv_at hl 2 rfl) ?_
                      obtain ⟨hi, h⟩ := ckb_some h
                      refine Ma_17 hx hb hK hP hi d_M_areAggregatesRight_97 ?_
                      obtain ⟨hi, h⟩ := ckb_some h
                      refine Ma_11 hx hb hK hP hi d_M_areAggregatesRight_98 ?_
                      refine lv_if_ne (tgt := 106) hx hb d_M_areAggregatesRight_99 (by decide) (fun hc => ?_) (fun hc => ?_)
                      · replace h := it_f h hc
                        refine lv_iconst (v := (0 : Int32)) hx hb d_M_areAggregatesRight_106 (by decide) ?_
                        refine lv_istore_n (lv' := [(1, .int (0 : Int32)), (0, .ref (a 0)), (2, .int x2)]) hx hb d_M_areAggregatesRight_107 rfl hl (by decide) rfl (fun ls hl => ?_)
                        refine lv_iinc (v := (x2 + 1)) (lv' := [(2, .int (x2 + 1)), (1, .int (0 : Int32)), (0, .ref (a 0))]) hx hb d_M_areAggregatesRight_108 hl (k := 2) rfl rfl (by decide) rfl (fun ls hl => ?_)
                        refine lv_goto (tgt := 76) hx hb d_M_areAggregatesRight_111 (by decide) ?_
                        exact ih76 σ (0 : Int32) (x2 + 1) H locs ls hP hD hS (lv_sub hl [2, 1, 0] rfl) h
                      · replace h := it_t h hc
                        refine lv_iconst (v := (1 : Int32)) hx hb d_M_areAggregatesRight_102 (by decide) ?_
                        refine lv_goto (tgt := 107) hx hb d_M_areAggregatesRight_103 (by decide) ?_
                        refine lv_istore_n (lv' := [(1, .int (1 : Int32)), (0, .ref (a 0)), (2, .int x2)]) hx hb d_M_areAggregatesRight_107 rfl hl (by decide) rfl (fun ls hl => ?_)
                        refine lv_iinc (v := (x2 + 1)) (lv' := [(2, .int (x2 + 1)), (1, .int (1 : Int32)), (0, .ref (a 0))]) hx hb d_M_areAggregatesRight_108 hl (k := 2) rfl rfl (by decide) rfl (fun ls hl => ?_)
                        refine lv_goto (tgt := 76) hx hb d_M_areAggregatesRight_111 (by decide) ?_
                        exact ih76 σ (1 : Int32) (x2 + 1) H locs ls hP hD hS (lv_sub hl [2, 1, 0] rfl) h
            refine lv_istore_n (lv' := [(2, .int (0 : Int32)), (0, .ref (a 0)), (1, .int x1)]) hx hb d_M_areAggregatesRight_75 rfl hl (by decide) rfl (fun ls hl => ?_)
            exact L76 N σ x1 (0 : Int32) H locs ls hP hD hS (lv_sub hl [1, 2, 0] rfl) h
          · replace h := it_f h hc
            refine lv_iload_n hx hb d_M_areAggregatesRight_35 rfl (lv_at hl 1 rfl) ?_
            refine lv_if_eq (tgt := 66) hx hb d_M_areAggregatesRight_36 (by decide) (fun hc => ?_) (fun hc => ?_)
            · replace h := it_t h hc
              refine lv_iconst (v := (0 : Int32)) hx hb d_M_areAggregatesRight_66 (by decide) ?_
              refine lv_istore_n (lv' := [(1, .int (0 : Int32)), (0, .ref (a 0)), (2, .int x2)]) hx hb d_M_areAggregatesRight_67 rfl hl (by decide) rfl (fun ls hl => ?_)
              refine lv_iinc (v := (x2 + 1)) (lv' := [(2, .int (x2 + 1)), (1, .int (0 : Int32)), (0, .ref (a 0))]) hx hb d_M_areAggregatesRight_68 hl (k := 2) rfl rfl (by decide) rfl (fun ls hl => ?_)
              refine lv_goto (tgt := 27) hx hb d_M_areAggregatesRight_71 (by decide) ?_
              exact ih27 σ (0 : Int32) (x2 + 1) H locs ls hP hD hS (lv_sub hl [2, 1, 0] rfl) h
            · replace h := it_f h hc
              refine lv_aload_n hx hb d_M_areAggregatesRight_39 rfl (lv_at hl 0 rfl) ?_
              refine Mg_0_18 hx hb hB hown (hB _ m_879) hK hP d_M_areAggregatesRight_40 ?_
              refine lv_iload_n hx hb d_M_areAggregatesRight_43 rfl (lv_at hl 2 rfl) ?_
              obtain ⟨hi, h⟩ := ckb_some h
              refine Ma_15 hx hb hK hP hi d_M_areAggregatesRight_44 ?_
              refine lv_if_eq (tgt := 62) hx hb d_M_areAggregatesRight_45 (by decide) (fun hc => ?_) (fun hc => ?_)
              · replace h := it_t h hc
                refine lv_iconst (v := (1 : Int32)) hx hb d_M_areAggregatesRight_62 (by decide) ?_
                refine lv_goto (tgt := 67) hx hb d_M_areAggregatesRight_63 (by decide) ?_
                refine lv_istore_n (lv' := [(1, .int (1 : Int32)), (0, .ref (a 0)), (2, .int x2)]) hx hb d_M_areAggregatesRight_67 rfl hl (by decide) rfl (fun ls hl => ?_)
                refine lv_iinc (v := (x2 + 1)) (lv' := [(2, .int (x2 + 1)), (1, .int (1 : Int32)), (0, .ref (a 0))]) hx hb d_M_areAggregatesRight_68 hl (k := 2) rfl rfl (by decide) rfl (fun ls hl => ?_)
                refine lv_goto (tgt := 27) hx hb d_M_areAggregatesRight_71 (by decide) ?_
                exact ih27 σ (1 : Int32) (x2 + 1) H locs ls hP hD hS (lv_sub hl [2, 1, 0] rfl) h
              · replace h := it_f h hc
                refine lv_aload_n hx hb d_M_areAggregatesRight_48 rfl (lv_at hl 0 rfl) ?_
                refine Mg_0_12 hx hb hB hown (hB _ m_873) hK hP d_M_areAggregatesRight_49 ?_
                refine lv_aload_n hx hb d_M_areAggregatesRight_52 rfl (lv_at hl 0 rfl) ?_
                refine Mg_0_19 hx hb hB hown (hB _ m_880) hK hP d_M_areAggregatesRight_53 ?_
                refine lv_iload_n hx hb d_M_areAggregatesRight_56 rfl (lv_at hl 2 rfl) ?_
                obtain ⟨hi, h⟩ := ckb_some h
                refine Ma_16 hx hb hK hP hi d_M_areAggregatesRight_57 ?_
                obtain ⟨hi, h⟩ := ckb_some h
                refine Ma_11 hx hb hK hP hi d_M_areAggregatesRight_58 ?_
                refine lv_if_ne (tgt := 66) hx hb d_M_areAggregatesRight_59 (by decide) (fun hc => ?_) (fun hc => ?_)
                · replace h := it_f h hc
                  refine lv_iconst (v := (0 : Int32)) hx hb d_M_areAggregatesRight_66 (by decide) ?_
                  refine lv_istore_n (lv' := [(1, .int (0 : Int32)), (0, .ref (a 0)), (2, .int x2)]) hx hb d_M_areAggregatesRight_67 rfl hl (by decide) rfl (fun ls hl => ?_)
                  refine lv_iinc (v := (x2 + 1)) (lv' := [(2, .int (x2 + 1)), (1, .int (0 : Int32)), (0, .ref (a 0))]) hx hb d_M_areAggregatesRight_68 hl (k := 2) rfl rfl (by decide) rfl (fun ls hl => ?_)
                  refine lv_goto (tgt := 27) hx hb d_M_areAggregatesRight_71 (by decide) ?_
                  exact ih27 σ (0 : Int32) (x2 + 1) H locs ls hP hD hS (lv_sub hl [2, 1, 0] rfl) h
                · replace h := it_t h hc
                  refine lv_iconst (v := (1 : Int32)) hx hb d_M_areAggregatesRight_62 (by decide) ?_
                  refine lv_goto (tgt := 67) hx hb d_M_areAggregatesRight_63 (by decide) ?_
                  refine lv_istore_n (lv' := [(1, .int (1 : Int32)), (0, .ref (a 0)), (2, .int x2)]) hx hb d_M_areAggregatesRight_67 rfl hl (by decide) rfl (fun ls hl => ?_)
                  refine lv_iinc (v := (x2 + 1)) (lv' := [(2, .int (x2 + 1)), (1, .int (1 : Int32)), (0, .ref (a 0))]) hx hb d_M_areAggregatesRight_68 hl (k := 2) rfl rfl (by decide) rfl (fun ls hl => ?_)
                  refine lv_goto (tgt := 27) hx hb d_M_areAggregatesRight_71 (by decide) ?_
                  exact ih27 σ (1 : Int32) (x2 + 1) H locs ls hP hD hS (lv_sub hl [2, 1, 0] rfl) h
    refine lv_istore_n (lv' := [(2, .int (0 : Int32)), (1, .int (1 : Int32)), (0, .ref (a 0))]) hx hb d_M_areAggregatesRight_26 rfl hl (by decide) rfl (fun ls hl => ?_)
    exact L27 N σ (1 : Int32) (0 : Int32) H locs ls hP hD hS (lv_sub hl [2, 1, 0] rfl) h
  · replace h := it_f h hc
    refine lv_aload_n hx hb d_M_areAggregatesRight_7 rfl (lv_at hl 0 rfl) ?_
    refine Mg_0_12 hx hb hB hown (hB _ m_873) hK hP d_M_areAggregatesRight_8 ?_
    refine lv_aload_n hx hb d_M_areAggregatesRight_11 rfl (lv_at hl 0 rfl) ?_
    refine Mg_0_20 hx hb hB hown (hB _ m_881) hK hP d_M_areAggregatesRight_12 ?_
    obtain ⟨hi, h⟩ := ckb_some h
    refine Ma_11 hx hb hK hP hi d_M_areAggregatesRight_15 ?_
    refine lv_if_ne (tgt := 23) hx hb d_M_areAggregatesRight_16 (by decide) (fun hc => ?_) (fun hc => ?_)
    · replace h := it_f h hc
      refine lv_iconst (v := (0 : Int32)) hx hb d_M_areAggregatesRight_23 (by decide) ?_
      refine lv_istore_n (lv' := [(1, .int (0 : Int32)), (0, .ref (a 0))]) hx hb d_M_areAggregatesRight_24 rfl hl (by decide) rfl (fun ls hl => ?_)
      refine lv_iconst (v := (0 : Int32)) hx hb d_M_areAggregatesRight_25 (by decide) ?_
      have L27 : ∀ (n : Nat) (σ : St) (x1 : Int32) (x2 : Int32) (H : Heap) (locs : List Loc) (ls : Array Slot), va_P D vCl (wM g ca a σ ++ tl) H → va_D A (wM g ca a σ ++ tl) → va_S A s.heap H locs → lv_has ls 3 [(0, .ref (a 0)), (1, .int x1), (2, .int x2)] → f_M_areAggregatesRight_27 N n σ x1 x2 = some (r, σ') → W p l e R s m args below meth c H locs 0 0 (MQ below (qb_QI D vCl (tyM ca) (wM g ca a σ' ++ tl) A r) args s 0 0 A) (F0 m 27 ls []) := by
        intro n
        induction n with
        | zero => intro σ x1 x2 H locs ls hP hD hS hl h; cases h
        | succ n ih27 =>
            intro σ x1 x2 H locs ls hP hD hS hl h
            obtain ⟨K27, eK27⟩ : ∃ K, K = f_M_areAggregatesRight_27 N n := ⟨_, rfl⟩
            rw [← eK27] at ih27
            replace h : f_M_areAggregatesRight_27_b N K27 σ x1 x2 = some (r, σ') := by rw [eK27]; exact h
            unfold f_M_areAggregatesRight_27_b at h
            refine lv_iload_n hx hb d_M_areAggregatesRight_27 rfl (lv_at hl 2 rfl) ?_
            refine lv_aload_n hx hb d_M_areAggregatesRight_28 rfl (lv_at hl 0 rfl) ?_
            refine Mg_0_16 hx hb hB hown (hB _ m_877) hK hP d_M_areAggregatesRight_29 ?_
            refine lv_icmp_ge (tgt := 74) hx hb d_M_areAggregatesRight_32 (by decide) (fun hc => ?_) (fun hc => ?_)
            · replace h := it_t h hc
              refine lv_iconst (v := (0 : Int32)) hx hb d_M_areAggregatesRight_74 (by decide) ?_
              have L76 : ∀ (n : Nat) (σ : St) (x1 : Int32) (x2 : Int32) (H : Heap) (locs : List Loc) (ls : Array Slot), va_P D vCl (wM g ca a σ ++ tl) H → va_D A (wM g ca a σ ++ tl) → va_S A s.heap H locs → lv_has ls 3 [(0, .ref (a 0)), (1, .int x1), (2, .int x2)] → f_M_areAggregatesRight_76 N n σ x1 x2 = some (r, σ') → W p l e R s m args below meth c H locs 0 0 (MQ below (qb_QI D vCl (tyM ca) (wM g ca a σ' ++ tl) A r) args s 0 0 A) (F0 m 76 ls []) := by
                intro n
                induction n with
                | zero => intro σ x1 x2 H locs ls hP hD hS hl h; cases h
                | succ n ih76 =>
                    intro σ x1 x2 H locs ls hP hD hS hl h
                    obtain ⟨K76, eK76⟩ : ∃ K, K = f_M_areAggregatesRight_76 N n := ⟨_, rfl⟩
                    rw [← eK76] at ih76
                    replace h : f_M_areAggregatesRight_76_b N K76 σ x1 x2 = some (r, σ') := by rw [eK76]; exact h
                    unfold f_M_areAggregatesRight_76_b at h
                    refine lv_iload_n hx hb d_M_areAggregatesRight_76 rfl (lv_at hl 2 rfl) ?_
                    refine lv_aload_n hx hb d_M_areAggregatesRight_77 rfl (lv_at hl 0 rfl) ?_
                    refine Mg_0_22 hx hb hB hown (hB _ m_883) hK hP d_M_areAggregatesRight_78 ?_
                    refine lv_icmp_ge (tgt := 114) hx hb d_M_areAggregatesRight_81 (by decide) (fun hc => ?_) (fun hc => ?_)
                    · replace h := it_t h hc
                      refine lv_iload_n hx hb d_M_areAggregatesRight_114 rfl (lv_at hl 1 rfl) ?_
                      obtain ⟨hi, h⟩ := ckt_some h
                      exact rf_Z (w := (fun z => wM g ca a z ++ tl)) h hx hb hr hlk hK hP hD hS hi.1 d_M_areAggregatesRight_115
                    · replace h := it_f h hc
                      refine lv_iload_n hx hb d_M_areAggregatesRight_84 rfl (lv_at hl 1 rfl) ?_
                      refine lv_if_eq (tgt := 106) hx hb d_M_areAggregatesRight_85 (by decide) (fun hc => ?_) (fun hc => ?_)
                      · replace h := it_t h hc
                        refine lv_iconst (v := (0 : Int32)) hx hb d_M_areAggregatesRight_106 (by decide) ?_
                        refine lv_istore_n (lv' := [(1, .int (0 : Int32)), (0, .ref (a 0)), (2, .int x2)]) hx hb d_M_areAggregatesRight_107 rfl hl (by decide) rfl (fun ls hl => ?_)
                        refine lv_iinc (v := (x2 + 1)) (lv' := [(2, .int (x2 + 1)), (1, .int (0 : Int32)), (0, .ref (a 0))]) hx hb d_M_areAggregatesRight_108 hl (k := 2) rfl rfl (by decide) rfl (fun ls hl => ?_)
                        refine lv_goto (tgt := 76) hx hb d_M_areAggregatesRight_111 (by decide) ?_
                        exact ih76 σ (0 : Int32) (x2 + 1) H locs ls hP hD hS (lv_sub hl [2, 1, 0] rfl) h
                      · replace h := it_f h hc
                        refine lv_aload_n hx hb d_M_areAggregatesRight_88 rfl (lv_at hl 0 rfl) ?_
                        refine Mg_0_12 hx hb hB hown (hB _ m_873) hK hP d_M_areAggregatesRight_89 ?_
                        refine lv_aload_n hx hb d_M_areAggregatesRight_92 rfl (lv_at hl 0 rfl) ?_
                        refine Mg_0_23 hx hb hB hown (hB _ m_884) hK hP d_M_areAggregatesRight_93 ?_
                        refine lv_iload_n hx hb d_M_areAggregatesRight_96 rfl (lv_at hl 2 rfl) ?_
                        obtain ⟨hi, h⟩ := ckb_some h
                        refine Ma_17 hx hb hK hP hi d_M_areAggregatesRight_97 ?_
                        obtain ⟨hi, h⟩ := ckb_some h
                        refine Ma_11 hx hb hK hP hi d_M_areAggregatesRight_98 ?_
                        refine lv_if_ne (tgt := 106) hx hb d_M_areAggregatesRight_99 (by decide) (fun hc => ?_) (fun hc => ?_)
                        · replace h := it_f h hc
                          refine lv_iconst (v := (0 : Int32)) hx hb d_M_areAggregatesRight_106 (by decide) ?_
                          refine lv_istore_n (lv' := [(1, .int (0 : Int32)), (0, .ref (a 0)), (2, .int x2)]) hx hb d_M_areAggregatesRight_107 rfl hl (by decide) rfl (fun ls hl => ?_)
                          refine lv_iinc (v := (x2 + 1)) (lv' := [(2, .int (x2 + 1)), (1, .int (0 : Int32)), (0, .ref (a 0))]) hx hb d_M_areAggregatesRight_108 hl (k := 2) rfl rfl (by decide) rfl (fun ls hl => ?_)
                          refine lv_goto (tgt := 76) hx hb d_M_areAggregatesRight_111 (by decide) ?_
                          exact ih76 σ (0 : Int32) (x2 + 1) H locs ls hP hD hS (lv_sub hl [2, 1, 0] rfl) h
                        · replace h := it_t h hc
                          refine lv_iconst (v := (1 : Int32)) hx hb d_M_areAggregatesRight_102 (by decide) ?_
                          refine lv_goto (tgt := 107) hx hb d_M_areAggregatesRight_103 (by decide) ?_
                          refine lv_istore_n (lv' := [(1, .int (1 : Int32)), (0, .ref (a 0)), (2, .int x2)]) hx hb d_M_areAggregatesRight_107 rfl hl (by decide) rfl (fun ls hl => ?_)
                          refine lv_iinc (v := (x2 + 1)) (lv' := [(2, .int (x2 + 1)), (1, .int (1 : Int32)), (0, .ref (a 0))]) hx hb d_M_areAggregatesRight_108 hl (k := 2) rfl rfl (by decide) rfl (fun ls hl => ?_)
                          refine lv_goto (tgt := 76) hx hb d_M_areAggregatesRight_111 (by decide) ?_
                          exact ih76 σ (1 : Int32) (x2 + 1) H locs ls hP hD hS (lv_sub hl [2, 1, 0] rfl) h
              refine lv_istore_n (lv' := [(2, .int (0 : Int32)), (0, .ref (a 0)), (1, .int x1)]) hx hb d_M_areAggregatesRight_75 rfl hl (by decide) rfl (fun ls hl => ?_)
              exact L76 N σ x1 (0 : Int32) H locs ls hP hD hS (lv_sub hl [1, 2, 0] rfl) h
            · replace h := it_f h hc
              refine lv_iload_n hx hb d_M_areAggregatesRight_35 rfl (lv_at hl 1 rfl) ?_
              refine lv_if_eq (tgt := 66) hx hb d_M_areAggregatesRight_36 (by decide) (fun hc => ?_) (fun hc => ?_)
              · replace h := it_t h hc
                refine lv_iconst (v := (0 : Int32)) hx hb d_M_areAggregatesRight_66 (by decide) ?_
                refine lv_istore_n (lv' := [(1, .int (0 : Int32)), (0, .ref (a 0)), (2, .int x2)]) hx hb d_M_areAggregatesRight_67 rfl hl (by decide) rfl (fun ls hl => ?_)
                refine lv_iinc (v := (x2 + 1)) (lv' := [(2, .int (x2 + 1)), (1, .int (0 : Int32)), (0, .ref (a 0))]) hx hb d_M_areAggregatesRight_68 hl (k := 2) rfl rfl (by decide) rfl (fun ls hl => ?_)
                refine lv_goto (tgt := 27) hx hb d_M_areAggregatesRight_71 (by decide) ?_
                exact ih27 σ (0 : Int32) (x2 + 1) H locs ls hP hD hS (lv_sub hl [2, 1, 0] rfl) h
              · replace h := it_f h hc
                refine lv_aload_n hx hb d_M_areAggregatesRight_39 rfl (lv_at hl 0 rfl) ?_
                refine Mg_0_18 hx hb hB hown (hB _ m_879) hK hP d_M_areAggregatesRight_40 ?_
                refine lv_iload_n hx hb d_M_areAggregatesRight_43 rfl (lv_at hl 2 rfl) ?_
                obtain ⟨hi, h⟩ := ckb_some h
                refine Ma_15 hx hb hK hP hi d_M_areAggregatesRight_44 ?_
                refine lv_if_eq (tgt := 62) hx hb d_M_areAggregatesRight_45 (by decide) (fun hc => ?_) (fun hc => ?_)
                · replace h := it_t h hc
                  refine lv_iconst (v := (1 : Int32)) hx hb d_M_areAggregatesRight_62 (by decide) ?_
                  refine lv_goto (tgt := 67) hx hb d_M_areAggregatesRight_63 (by decide) ?_
                  refine lv_istore_n (lv' := [(1, .int (1 : Int32)), (0, .ref (a 0)), (2, .int x2)]) hx hb d_M_areAggregatesRight_67 rfl hl (by decide) rfl (fun ls hl => ?_)
                  refine lv_iinc (v := (x2 + 1)) (lv' := [(2, .int (x2 + 1)), (1, .int (1 : Int32)), (0, .ref (a 0))]) hx hb d_M_areAggregatesRight_68 hl (k := 2) rfl rfl (by decide) rfl (fun ls hl => ?_)
                  refine lv_goto (tgt := 27) hx hb d_M_areAggregatesRight_71 (by decide) ?_
                  exact ih27 σ (1 : Int32) (x2 + 1) H locs ls hP hD hS (lv_sub hl [2, 1, 0] rfl) h
                · replace h := it_f h hc
                  refine lv_aload_n hx hb d_M_areAggregatesRight_48 rfl (lv_at hl 0 rfl) ?_
                  refine Mg_0_12 hx hb hB hown (hB _ m_873) hK hP d_M_areAggregatesRight_49 ?_
                  refine lv_aload_n hx hb d_M_areAggregatesRight_52 rfl (lv_at hl 0 rfl) ?_
                  refine Mg_0_19 hx hb hB hown (hB _ m_880) hK hP d_M_areAggregatesRight_53 ?_
                  refine lv_iload_n hx hb d_M_areAggregatesRight_56 rfl (lv_at hl 2 rfl) ?_
                  obtain ⟨hi, h⟩ := ckb_some h
                  refine Ma_16 hx hb hK hP hi d_M_areAggregatesRight_57 ?_
                  obtain ⟨hi, h⟩ := ckb_some h
                  refine Ma_11 hx hb hK hP hi d_M_areAggregatesRight_58 ?_
                  refine lv_if_ne (tgt := 66) hx hb d_M_areAggregatesRight_59 (by decide) (fun hc => ?_) (fun hc => ?_)
                  · replace h := it_f h hc
                    refine lv_iconst (v := (0 : Int32)) hx hb d_M_areAggregatesRight_66 (by decide) ?_
                    refine lv_istore_n (lv' := [(1, .int (0 : Int32)), (0, .ref (a 0)), (2, .int x2)]) hx hb d_M_areAggregatesRight_67 rfl hl (by decide) rfl (fun ls hl => ?_)
                    refine lv_iinc (v := (x2 + 1)) (lv' := [(2, .int (x2 + 1)), (1, .int (0 : Int32)), (0, .ref (a 0))]) hx hb d_M_areAggregatesRight_68 hl (k := 2) rfl rfl (by decide) rfl (fun ls hl => ?_)
                    refine lv_goto (tgt := 27) hx hb d_M_areAggregatesRight_71 (by decide) ?_
                    exact ih27 σ (0 : Int32) (x2 + 1) H locs ls hP hD hS (lv_sub hl [2, 1, 0] rfl) h
                  · replace h := it_t h hc
                    refine lv_iconst (v := (1 : Int32)) hx hb d_M_areAggregatesRight_62 (by decide) ?_
                    refine lv_goto (tgt := 67) hx hb d_M_areAggregatesRight_63 (by decide) ?_
                    refine lv_istore_n (lv' := [(1, .int (1 : Int32)), (0, .ref (a 0)), (2, .int x2)]) hx hb d_M_areAggregatesRight_67 rfl hl (by decide) rfl (fun ls hl => ?_)
                    refine lv_iinc (v := (x2 + 1)) (lv' := [(2, .int (x2 + 1)), (1, .int (1 : Int32)), (0, .ref (a 0))]) hx hb d_M_areAggregatesRight_68 hl (k := 2) rfl rfl (by decide) rfl (fun ls hl => ?_)
                    refine lv_goto (tgt := 27) hx hb d_M_areAggregatesRight_71 (by decide) ?_
                    exact ih27 σ (1 : Int32) (x2 + 1) H locs ls hP hD hS (lv_sub hl [2, 1, 0] rfl) h
      refine lv_istore_n (lv' := [(2, .int (0 : Int32)), (1, .int (0 : Int32)), (0, .ref (a 0))]) hx hb d_M_areAggregatesRight_26 rfl hl (by decide) rfl (fun ls hl => ?_)
      exact L27 N σ (0 : Int32) (0 : Int32) H locs ls hP hD hS (lv_sub hl [2, 1, 0] rfl) h
    · replace h := it_t h hc
      refine lv_iconst (v := (1 : Int32)) hx hb d_M_areAggregatesRight_19 (by decide) ?_
      refine lv_goto (tgt := 24) hx hb d_M_areAggregatesRight_20 (by decide) ?_
      refine lv_istore_n (lv' := [(1, .int (1 : Int32)), (0, .ref (a 0))]) hx hb d_M_areAggregatesRight_24 rfl hl (by decide) rfl (fun ls hl => ?_)
      refine lv_iconst (v := (0 : Int32)) hx hb d_M_areAggregatesRight_25 (by decide) ?_
      have L27 : ∀ (n : Nat) (σ : St) (x1 : Int32) (x2 : Int32) (H : Heap) (locs : List Loc) (ls : Array Slot), va_P D vCl (wM g ca a σ ++ tl) H → va_D A (wM g ca a σ ++ tl) → va_S A s.heap H locs → lv_has ls 3 [(0, .ref (a 0)), (1, .int x1), (2, .int x2)] → f_M_areAggregatesRight_27 N n σ x1 x2 = some (r, σ') → W p l e R s m args below meth c H locs 0 0 (MQ below (qb_QI D vCl (tyM ca) (wM g ca a σ' ++ tl) A r) args s 0 0 A) (F0 m 27 ls []) := by
        intro n
        induction n with
        | zero => intro σ x1 x2 H locs ls hP hD hS hl h; cases h
        | succ n ih27 =>
            intro σ x1 x2 H locs ls hP hD hS hl h
            obtain ⟨K27, eK27⟩ : ∃ K, K = f_M_areAggregatesRight_27 N n := ⟨_, rfl⟩
            rw [← eK27] at ih27
            replace h : f_M_areAggregatesRight_27_b N K27 σ x1 x2 = some (r, σ') := by rw [eK27]; exact h
            unfold f_M_areAggregatesRight_27_b at h
            refine lv_iload_n hx hb d_M_areAggregatesRight_27 rfl (lv_at hl 2 rfl) ?_
            refine lv_aload_n hx hb d_M_areAggregatesRight_28 rfl (lv_at hl 0 rfl) ?_
            refine Mg_0_16 hx hb hB hown (hB _ m_877) hK hP d_M_areAggregatesRight_29 ?_
            refine lv_icmp_ge (tgt := 74) hx hb d_M_areAggregatesRight_32 (by decide) (fun hc => ?_) (fun hc => ?_)
            · replace h := it_t h hc
              refine lv_iconst (v := (0 : Int32)) hx hb d_M_areAggregatesRight_74 (by decide) ?_
              have L76 : ∀ (n : Nat) (σ : St) (x1 : Int32) (x2 : Int32) (H : Heap) (locs : List Loc) (ls : Array Slot), va_P D vCl (wM g ca a σ ++ tl) H → va_D A (wM g ca a σ ++ tl) → va_S A s.heap H locs → lv_has ls 3 [(0, .ref (a 0)), (1, .int x1), (2, .int x2)] → f_M_areAggregatesRight_76 N n σ x1 x2 = some (r, σ') → W p l e R s m args below meth c H locs 0 0 (MQ below (qb_QI D vCl (tyM ca) (wM g ca a σ' ++ tl) A r) args s 0 0 A) (F0 m 76 ls []) := by
                intro n
                induction n with
                | zero => intro σ x1 x2 H locs ls hP hD hS hl h; cases h
                | succ n ih76 =>
                    intro σ x1 x2 H locs ls hP hD hS hl h
                    obtain ⟨K76, eK76⟩ : ∃ K, K = f_M_areAggregatesRight_76 N n := ⟨_, rfl⟩
                    rw [← eK76] at ih76
                    replace h : f_M_areAggregatesRight_76_b N K76 σ x1 x2 = some (r, σ') := by rw [eK76]; exact h
                    unfold f_M_areAggregatesRight_76_b at h
                    refine lv_iload_n hx hb d_M_areAggregatesRight_76 rfl (lv_at hl 2 rfl) ?_
                    refine lv_aload_n hx hb d_M_areAggregatesRight_77 rfl (lv_at hl 0 rfl) ?_
                    refine Mg_0_22 hx hb hB hown (hB _ m_883) hK hP d_M_areAggregatesRight_78 ?_
                    refine lv_icmp_ge (tgt := 114) hx hb d_M_areAggregatesRight_81 (by decide) (fun hc => ?_) (fun hc => ?_)
                    · replace h := it_t h hc
                      refine lv_iload_n hx hb d_M_areAggregatesRight_114 rfl (lv_at hl 1 rfl) ?_
                      obtain ⟨hi, h⟩ := ckt_some h
                      exact rf_Z (w := (fun z => wM g ca a z ++ tl)) h hx hb hr hlk hK hP hD hS hi.1 d_M_areAggregatesRight_115
                    · replace h := it_f h hc
                      refine lv_iload_n hx hb d_M_areAggregatesRight_84 rfl (lv_at hl 1 rfl) ?_
                      refine lv_if_eq (tgt := 106) hx hb d_M_areAggregatesRight_85 (by decide) (fun hc => ?_) (fun hc => ?_)
                      · replace h := it_t h hc
                        refine lv_iconst (v := (0 : Int32)) hx hb d_M_areAggregatesRight_106 (by decide) ?_
                        refine lv_istore_n (lv' := [(1, .int (0 : Int32)), (0, .ref (a 0)), (2, .int x2)]) hx hb d_M_areAggregatesRight_107 rfl hl (by decide) rfl (fun ls hl => ?_)
                        refine lv_iinc (v := (x2 + 1)) (lv' := [(2, .int (x2 + 1)), (1, .int (0 : Int32)), (0, .ref (a 0))]) hx hb d_M_areAggregatesRight_108 hl (k := 2) rfl rfl (by decide) rfl (fun ls hl => ?_)
                        refine lv_goto (tgt := 76) hx hb d_M_areAggregatesRight_111 (by decide) ?_
                        exact ih76 σ (0 : Int32) (x2 + 1) H locs ls hP hD hS (lv_sub hl [2, 1, 0] rfl) h
                      · replace h := it_f h hc
                        refine lv_aload_n hx hb d_M_areAggregatesRight_88 rfl (lv_at hl 0 rfl) ?_
                        refine Mg_0_12 hx hb hB hown (hB _ m_873) hK hP d_M_areAggregatesRight_89 ?_
                        refine lv_aload_n hx hb d_M_areAggregatesRight_92 rfl (lv_at hl 0 rfl) ?_
                        refine Mg_0_23 hx hb hB hown (hB _ m_884) hK hP d_M_areAggregatesRight_93 ?_
                        refine lv_iload_n hx hb d_M_areAggregatesRight_96 rfl (lv_at hl 2 rfl) ?_
                        obtain ⟨hi, h⟩ := ckb_some h
                        refine Ma_17 hx hb hK hP hi d_M_areAggregatesRight_97 ?_
                        obtain ⟨hi, h⟩ := ckb_some h
                        refine Ma_11 hx hb hK hP hi d_M_areAggregatesRight_98 ?_
                        refine lv_if_ne (tgt := 106) hx hb d_M_areAggregatesRight_99 (by decide) (fun hc => ?_) (fun hc => ?_)
                        · replace h := it_f h hc
                          refine lv_iconst (v := (0 : Int32)) hx hb d_M_areAggregatesRight_106 (by decide) ?_
                          refine lv_istore_n (lv' := [(1, .int (0 : Int32)), (0, .ref (a 0)), (2, .int x2)]) hx hb d_M_areAggregatesRight_107 rfl hl (by decide) rfl (fun ls hl => ?_)
                          refine lv_iinc (v := (x2 + 1)) (lv' := [(2, .int (x2 + 1)), (1, .int (0 : Int32)), (0, .ref (a 0))]) hx hb d_M_areAggregatesRight_108 hl (k := 2) rfl rfl (by decide) rfl (fun ls hl => ?_)
                          refine lv_goto (tgt := 76) hx hb d_M_areAggregatesRight_111 (by decide) ?_
                          exact ih76 σ (0 : Int32) (x2 + 1) H locs ls hP hD hS (lv_sub hl [2, 1, 0] rfl) h
                        · replace h := it_t h hc
                          refine lv_iconst (v := (1 : Int32)) hx hb d_M_areAggregatesRight_102 (by decide) ?_
                          refine lv_goto (tgt := 107) hx hb d_M_areAggregatesRight_103 (by decide) ?_
                          refine lv_istore_n (lv' := [(1, .int (1 : Int32)), (0, .ref (a 0)), (2, .int x2)]) hx hb d_M_areAggregatesRight_107 rfl hl (by decide) rfl (fun ls hl => ?_)
                          refine lv_iinc (v := (x2 + 1)) (lv' := [(2, .int (x2 + 1)), (1, .int (1 : Int32)), (0, .ref (a 0))]) hx hb d_M_areAggregatesRight_108 hl (k := 2) rfl rfl (by decide) rfl (fun ls hl => ?_)
                          refine lv_goto (tgt := 76) hx hb d_M_areAggregatesRight_111 (by decide) ?_
                          exact ih76 σ (1 : Int32) (x2 + 1) H locs ls hP hD hS (lv_sub hl [2, 1, 0] rfl) h
              refine lv_istore_n (lv' := [(2, .int (0 : Int32)), (0, .ref (a 0)), (1, .int x1)]) hx hb d_M_areAggregatesRight_75 rfl hl (by decide) rfl (fun ls hl => ?_)
              exact L76 N σ x1 (0 : Int32) H locs ls hP hD hS (lv_sub hl [1, 2, 0] rfl) h
            · replace h := it_f h hc
              refine lv_iload_n hx hb d_M_areAggregatesRight_35 rfl (lv_at hl 1 rfl) ?_
              refine lv_if_eq (tgt := 66) hx hb d_M_areAggregatesRight_36 (by decide) (fun hc => ?_) (fun hc => ?_)
              · replace h := it_t h hc
                refine lv_iconst (v := (0 : Int32)) hx hb d_M_areAggregatesRight_66 (by decide) ?_
                refine lv_istore_n (lv' := [(1, .int (0 : Int32)), (0, .ref (a 0)), (2, .int x2)]) hx hb d_M_areAggregatesRight_67 rfl hl (by decide) rfl (fun ls hl => ?_)
                refine lv_iinc (v := (x2 + 1)) (lv' := [(2, .int (x2 + 1)), (1, .int (0 : Int32)), (0, .ref (a 0))]) hx hb d_M_areAggregatesRight_68 hl (k := 2) rfl rfl (by decide) rfl (fun ls hl => ?_)
                refine lv_goto (tgt := 27) hx hb d_M_areAggregatesRight_71 (by decide) ?_
                exact ih27 σ (0 : Int32) (x2 + 1) H locs ls hP hD hS (lv_sub hl [2, 1, 0] rfl) h
              · replace h := it_f h hc
                refine lv_aload_n hx hb d_M_areAggregatesRight_39 rfl (lv_at hl 0 rfl) ?_
                refine Mg_0_18 hx hb hB hown (hB _ m_879) hK hP d_M_areAggregatesRight_40 ?_
                refine lv_iload_n hx hb d_M_areAggregatesRight_43 rfl (lv_at hl 2 rfl) ?_
                obtain ⟨hi, h⟩ := ckb_some h
                refine Ma_15 hx hb hK hP hi d_M_areAggregatesRight_44 ?_
                refine lv_if_eq (tgt := 62) hx hb d_M_areAggregatesRight_45 (by decide) (fun hc => ?_) (fun hc => ?_)
                · replace h := it_t h hc
                  refine lv_iconst (v := (1 : Int32)) hx hb d_M_areAggregatesRight_62 (by decide) ?_
                  refine lv_goto (tgt := 67) hx hb d_M_areAggregatesRight_63 (by decide) ?_
                  refine lv_istore_n (lv' := [(1, .int (1 : Int32)), (0, .ref (a 0)), (2, .int x2)]) hx hb d_M_areAggregatesRight_67 rfl hl (by decide) rfl (fun ls hl => ?_)
                  refine lv_iinc (v := (x2 + 1)) (lv' := [(2, .int (x2 + 1)), (1, .int (1 : Int32)), (0, .ref (a 0))]) hx hb d_M_areAggregatesRight_68 hl (k := 2) rfl rfl (by decide) rfl (fun ls hl => ?_)
                  refine lv_goto (tgt := 27) hx hb d_M_areAggregatesRight_71 (by decide) ?_
                  exact ih27 σ (1 : Int32) (x2 + 1) H locs ls hP hD hS (lv_sub hl [2, 1, 0] rfl) h
                · replace h := it_f h hc
                  refine lv_aload_n hx hb d_M_areAggregatesRight_48 rfl (lv_at hl 0 rfl) ?_
                  refine Mg_0_12 hx hb hB hown (hB _ m_873) hK hP d_M_areAggregatesRight_49 ?_
                  refine lv_aload_n hx hb d_M_areAggregatesRight_52 rfl (lv_at hl 0 rfl) ?_
                  refine Mg_0_19 hx hb hB hown (hB _ m_880) hK hP d_M_areAggregatesRight_53 ?_
                  refine lv_iload_n hx hb d_M_areAggregatesRight_56 rfl (lv_at hl 2 rfl) ?_
                  obtain ⟨hi, h⟩ := ckb_some h
                  refine Ma_16 hx hb hK hP hi d_M_areAggregatesRight_57 ?_
                  obtain ⟨hi, h⟩ := ckb_some h
                  refine Ma_11 hx hb hK hP hi d_M_areAggregatesRight_58 ?_
                  refine lv_if_ne (tgt := 66) hx hb d_M_areAggregatesRight_59 (by decide) (fun hc => ?_) (fun hc => ?_)
                  · replace h := it_f h hc
                    refine lv_iconst (v := (0 : Int32)) hx hb d_M_areAggregatesRight_66 (by decide) ?_
                    refine lv_istore_n (lv' := [(1, .int (0 : Int32)), (0, .ref (a 0)), (2, .int x2)]) hx hb d_M_areAggregatesRight_67 rfl hl (by decide) rfl (fun ls hl => ?_)
                    refine lv_iinc (v := (x2 + 1)) (lv' := [(2, .int (x2 + 1)), (1, .int (0 : Int32)), (0, .ref (a 0))]) hx hb d_M_areAggregatesRight_68 hl (k := 2) rfl rfl (by decide) rfl (fun ls hl => ?_)
                    refine lv_goto (tgt := 27) hx hb d_M_areAggregatesRight_71 (by decide) ?_
                    exact ih27 σ (0 : Int32) (x2 + 1) H locs ls hP hD hS (lv_sub hl [2, 1, 0] rfl) h
                  · replace h := it_t h hc
                    refine lv_iconst (v := (1 : Int32)) hx hb d_M_areAggregatesRight_62 (by decide) ?_
                    refine lv_goto (tgt := 67) hx hb d_M_areAggregatesRight_63 (by decide) ?_
                    refine lv_istore_n (lv' := [(1, .int (1 : Int32)), (0, .ref (a 0)), (2, .int x2)]) hx hb d_M_areAggregatesRight_67 rfl hl (by decide) rfl (fun ls hl => ?_)
                    refine lv_iinc (v := (x2 + 1)) (lv' := [(2, .int (x2 + 1)), (1, .int (1 : Int32)), (0, .ref (a 0))]) hx hb d_M_areAggregatesRight_68 hl (k := 2) rfl rfl (by decide) rfl (fun ls hl => ?_)
                    refine lv_goto (tgt := 27) hx hb d_M_areAggregatesRight_71 (by decide) ?_
                    exact ih27 σ (1 : Int32) (x2 + 1) H locs ls hP hD hS (lv_sub hl [2, 1, 0] rfl) h
      refine lv_istore_n (lv' := [(2, .int (0 : Int32)), (1, .int (1 : Int32)), (0, .ref (a 0))]) hx hb d_M_areAggregatesRight_26 rfl hl (by decide) rfl (fun ls hl => ?_)
      exact L27 N σ (1 : Int32) (0 : Int32) H locs ls hP hD hS (lv_sub hl [2, 1, 0] rfl) h
set_option maxRecDepth 100000 in
set_option maxHeartbeats 4000000 in
theorem c_M_hasColumns (l : Launch) (D : va_G) (ca : Nat → ClassId) (g : Bool) (a : Nat → Nat) (tl : va_W) (N : Nat) (σ σ' : St) (x1 : Int32) (x2 : Int32) (r : Int32) (h : f_M_hasColumns N σ x1 x2 = some (r, σ')) : CtI l y_M_hasColumns ws_M_hasColumns rm_M_hasColumns 0 0 D vCl (tyM ca) nwM [.ref (a 0), .int x1, .int x2] (wM g ca a σ ++ tl) (wM g ca a σ' ++ tl) r := by
  refine en_Z (ws' := BIG) (by decide +kernel) rfl (Nat.le_of_ble_eq_true rfl) ?_
  intro p e s m below meth c A ls R args H locs hR hx hb hr hlk hml hown hB hK hN hP hD hA hS hl
  have hl : lv_has ls 6 [(0, .ref (a 0)), (1, .int x1), (2, .int x2)] := hl
  unfold f_M_hasColumns at h
  refine lv_iconst (v := (1 : Int32)) hx hb d_M_hasColumns_0 (by decide) ?_
  refine lv_istore_n (lv' := [(3, .int (1 : Int32)), (0, .ref (a 0)), (1, .int x1), (2, .int x2)]) hx hb d_M_hasColumns_1 rfl hl (by decide) rfl (fun ls hl => ?_)
  refine lv_aload_n hx hb d_M_hasColumns_2 rfl (lv_at hl 1 rfl) ?_
  refine lv_iconst (v := (0 : Int32)) hx hb d_M_hasColumns_3 (by decide) ?_
  obtain ⟨s1, es1, h⟩ := nm_some h
  refine Mp_0_49 es1 hx hb hB hown (hB _ m_910) hK hP hD hS d_M_hasColumns_4 (fun H locs hP hD hS => ?_)
  refine lv_aload_n hx hb d_M_hasColumns_7 rfl (lv_at hl 1 rfl) ?_
  refine lv_iload_n hx hb d_M_hasColumns_8 rfl (lv_at hl 2 rfl) ?_
  have L12 : ∀ (n : Nat) (σ : St) (x2 : Int32) (x3 : Int32) (H : Heap) (locs : List Loc) (ls : Array Slot), va_P D vCl (wM g ca a σ ++ tl) H → va_D A (wM g ca a σ ++ tl) → va_S A s.heap H locs → lv_has ls 6 [(0, .ref (a 0)), (2, .int x2), (3, .int x3)] → f_M_hasColumns_12 N n σ x2 x3 = some (r, σ') → W p l e R s m args below meth c H locs 0 0 (MQ below (qb_QI D vCl (tyM ca) (wM g ca a σ' ++ tl) A r) args s 0 0 A) (F0 m 12 ls []) := by
    intro n
    induction n with
    | zero => intro σ x2 x3 H locs ls hP hD hS hl h; cases h
    | succ n ih12 =>
        intro σ x2 x3 H locs ls hP hD hS hl h
        obtain ⟨K12, eK12⟩ : ∃ K, K = f_M_hasColumns_12 N n := ⟨_, rfl⟩
        rw [← eK12] at ih12
        replace h : f_M_hasColumns_12_b N K12 σ x2 x3 = some (r, σ') := by rw [eK12]; exact h
        unfold f_M_hasColumns_12_b at h
        refine lv_aload_n hx hb d_M_hasColumns_12 rfl (lv_at hl 0 rfl) ?_
        refine Mg_0_49 hx hb hB hown (hB _ m_910) hK hP d_M_hasColumns_13 ?_
        refine lv_if_le (tgt := 148) hx hb d_M_hasColumns_16 (by decide) (fun hc => ?_) (fun hc => ?_)
        · replace h := it_t h hc
          refine lv_iload_n hx hb d_M_hasColumns_148 rfl (lv_at hl 2 rfl) ?_
          obtain ⟨hi, h⟩ := ckt_some h
          exact rf_Z (w := (fun z => wM g ca a z ++ tl)) h hx hb hr hlk hK hP hD hS hi.1 d_M_hasColumns_149
        · replace h := it_f h hc
          refine lv_aload_n hx hb d_M_hasColumns_19 rfl (lv_at hl 0 rfl) ?_
          refine lv_dup hx hb d_M_hasColumns_20 rfl ?_
          refine Mg_0_49 hx hb hB hown (hB _ m_910) hK hP d_M_hasColumns_21 ?_
          refine lv_iconst (v := (1 : Int32)) hx hb d_M_hasColumns_24 (by decide) ?_
          refine lv_isub hx hb d_M_hasColumns_25 ?_
          obtain ⟨s2, es2, h⟩ := nm_some h
          refine Mp_0_49 es2 hx hb hB hown (hB _ m_910) hK hP hD hS d_M_hasColumns_26 (fun H locs hP hD hS => ?_)
          refine lv_aload_n hx hb d_M_hasColumns_29 rfl (lv_at hl 0 rfl) ?_
          refine Mg_0_50 hx hb hB hown (hB _ m_911) hK hP d_M_hasColumns_30 ?_
          refine lv_aload_n hx hb d_M_hasColumns_33 rfl (lv_at hl 0 rfl) ?_
          refine Mg_0_49 hx hb hB hown (hB _ m_910) hK hP d_M_hasColumns_34 ?_
          obtain ⟨hi, h⟩ := ckb_some h
          refine Ma_31 hx hb hK hP hi d_M_hasColumns_37 ?_
          refine lv_istore (lv' := [(4, .int (ga s2 24 ((gi s2 19)).toNatClampNeg)), (0, .ref (a 0)), (2, .int x2), (3, .int x3)]) hx hb d_M_hasColumns_38 hl (by decide) rfl (fun ls hl => ?_)
          refine lv_aload_n hx hb d_M_hasColumns_40 rfl (lv_at hl 1 rfl) ?_
          refine Mg_0_6 hx hb hB hown (hB _ m_867) hK hP d_M_hasColumns_41 ?_
          refine lv_iload hx hb d_M_hasColumns_44 (lv_at hl 0 rfl) ?_
          obtain ⟨hi, h⟩ := ckb_some h
          refine Ma_5 hx hb hK hP hi d_M_hasColumns_46 ?_
          refine lv_istore (lv' := [(5, .int (ga s2 3 ((ga s2 24 ((gi s2 19)).toNatClampNeg)).toNatClampNeg)), (4, .int (ga s2 24 ((gi s2 19)).toNatClampNeg)), (0, .ref (a 0)), (2, .int x2), (3, .int x3)]) hx hb d_M_hasColumns_47 hl (by decide) rfl (fun ls hl => ?_)
          refine lv_iload hx hb d_M_hasColumns_49 (lv_at hl 0 rfl) ?_
          refine lv_bipush (v := (21 : Int32)) hx hb d_M_hasColumns_51 (by decide) ?_
          refine lv_icmp_ne (tgt := 107) hx hb d_M_hasColumns_53 (by decide) (fun hc => ?_) (fun hc => ?_)
          · replace h := it_f h hc
            refine lv_iload hx hb d_M_hasColumns_107 (lv_at hl 0 rfl) ?_
            refine lv_bipush (v := (20 : Int32)) hx hb d_M_hasColumns_109 (by decide) ?_
            refine lv_icmp_eq (tgt := 145) hx hb d_M_hasColumns_111 (by decide) (fun hc => ?_) (fun hc => ?_)
            · replace h := it_t h hc
              refine lv_goto (tgt := 12) hx hb d_M_hasColumns_145 (by decide) ?_
              exact ih12 s2 x2 x3 H locs ls hP hD hS (lv_sub hl [2, 3, 4] rfl) h
            · replace h := it_f h hc
              refine lv_aload_n hx hb d_M_hasColumns_114 rfl (lv_at hl 2 rfl) ?_
              refine lv_aload_n hx hb d_M_hasColumns_115 rfl (lv_at hl 2 rfl) ?_
              refine Mg_0_7 hx hb hB hown (hB _ m_868) hK hP d_M_hasColumns_116 ?_
              refine lv_iload hx hb d_M_hasColumns_119 (lv_at hl 1 rfl) ?_
              obtain ⟨hi, h⟩ := ckb_some h
              refine Ma_6 hx hb hK hP hi d_M_hasColumns_121 ?_
              obtain ⟨r3, s4, hr3, h⟩ := bd_some h
              cases r3
              refine go_VV (rest := []) ⟨hx, hb, hml, hown, hB⟩ nwM_ok (c_M_push l D ca g a tl N s2 s4 (ga s2 4 ((ga s2 24 ((gi s2 19)).toNatClampNeg)).toNatClampNeg) hr3) (cwx_V hB m_1126 kw_M_push ⟨by rw [hR]; decide, by rw [hR]; decide⟩ rfl rfl) (va_recv hK hP (ci := 1) (q0 := 0) rfl rfl) hN hK hP hD hS hA rfl hl.1 rfl (Nat.le_of_ble_eq_true rfl) d_M_hasColumns_122 ⟨by rw [hR]; exact Nat.le_of_ble_eq_true rfl, by rw [hR]; exact Nat.le_of_ble_eq_true rfl⟩ (fun H locs hP hD hS => ?_)
              refine lv_aload_n hx hb d_M_hasColumns_125 rfl (lv_at hl 2 rfl) ?_
              refine lv_iload hx hb d_M_hasColumns_126 (lv_at hl 0 rfl) ?_
              obtain ⟨r5, s6, hr5, h⟩ := bd_some h
              refine go_VI (rest := []) ⟨hx, hb, hml, hown, hB⟩ nwM_ok (c_M_isTwo l D ca g a tl N s4 s6 (ga s2 3 ((ga s2 24 ((gi s2 19)).toNatClampNeg)).toNatClampNeg) r5 hr5) (cwx_V hB m_1053 kw_M_isTwo ⟨by rw [hR]; decide, by rw [hR]; decide⟩ rfl rfl) (va_recv hK hP (ci := 1) (q0 := 0) rfl rfl) hN hK hP hD hS hA rfl hl.1 rfl (Nat.le_of_ble_eq_true rfl) d_M_hasColumns_128 ⟨by rw [hR]; exact Nat.le_of_ble_eq_true rfl, by rw [hR]; exact Nat.le_of_ble_eq_true rfl⟩ (fun H locs hP hD hS => ?_)
              refine lv_if_eq (tgt := 145) hx hb d_M_hasColumns_131 (by decide) (fun hc => ?_) (fun hc => ?_)
              · replace h := it_t h hc
                refine lv_goto (tgt := 12) hx hb d_M_hasColumns_145 (by decide) ?_
                exact ih12 s6 x2 x3 H locs ls hP hD hS (lv_sub hl [2, 3, 4] rfl) h
              · replace h := it_f h hc
                refine lv_aload_n hx hb d_M_hasColumns_134 rfl (lv_at hl 2 rfl) ?_
                refine lv_aload_n hx hb d_M_hasColumns_135 rfl (lv_at hl 2 rfl) ?_
                refine Mg_0_8 hx hb hB hown (hB _ m_869) hK hP d_M_hasColumns_136 ?_
                refine lv_iload hx hb d_M_hasColumns_139 (lv_at hl 1 rfl) ?_
                obtain ⟨hi, h⟩ := ckb_some h
                refine Ma_7 hx hb hK hP hi d_M_hasColumns_141 ?_
                obtain ⟨r7, s8, hr7, h⟩ := bd_some h
                cases r7
                refine go_VV (rest := []) ⟨hx, hb, hml, hown, hB⟩ nwM_ok (c_M_push l D ca g a tl N s6 s8 (ga s6 5 ((ga s2 24 ((gi s2 19)).toNatClampNeg)).toNatClampNeg) hr7) (cwx_V hB m_1126 kw_M_push ⟨by rw [hR]; decide, by rw [hR]; decide⟩ rfl rfl) (va_recv hK hP (ci := 1) (q0 := 0) rfl rfl) hN hK hP hD hS hA rfl hl.1 rfl (Nat.le_of_ble_eq_true rfl) d_M_hasColumns_142 ⟨by rw [hR]; exact Nat.le_of_ble_eq_true rfl, by rw [hR]; exact Nat.le_of_ble_eq_true rfl⟩ (fun H locs hP hD hS => ?_)
                refine lv_goto (tgt := 12) hx hb d_M_hasColumns_145 (by decide) ?_
                exact ih12 s8 x2 x3 H locs ls hP hD hS (lv_sub hl [2, 3, 4] rfl) h
          · replace h := it_t h hc
            refine lv_iload_n hx hb d_M_hasColumns_56 rfl (lv_at hl 4 rfl) ?_
            refine lv_if_eq (tgt := 102) hx hb d_M_hasColumns_57 (by decide) (fun hc => ?_) (fun hc => ?_)
            · replace h := it_t h hc
              refine lv_iconst (v := (0 : Int32)) hx hb d_M_hasColumns_102 (by decide) ?_
              refine lv_istore_n (lv' := [(3, .int (0 : Int32)), (5, .int (ga s2 3 ((ga s2 24 ((gi s2 19)).toNatClampNeg)).toNatClampNeg)), (4, .int (ga s2 24 ((gi s2 19)).toNatClampNeg)), (0, .ref (a 0)), (2, .int x2)]) hx hb d_M_hasColumns_103 rfl hl (by decide) rfl (fun ls hl => ?_)
              refine lv_goto (tgt := 145) hx hb d_M_hasColumns_104 (by decide) ?_
              refine lv_goto (tgt := 12) hx hb d_M_hasColumns_145 (by decide) ?_
              exact ih12 s2 x2 (0 : Int32) H locs ls hP hD hS (lv_sub hl [3, 4, 0] rfl) h
            · replace h := it_f h hc
              refine lv_aload_n hx hb d_M_hasColumns_60 rfl (lv_at hl 2 rfl) ?_
              refine Mg_0_7 hx hb hB hown (hB _ m_868) hK hP d_M_hasColumns_61 ?_
              refine lv_iload hx hb d_M_hasColumns_64 (lv_at hl 1 rfl) ?_
              obtain ⟨hi, h⟩ := ckb_some h
              refine Ma_6 hx hb hK hP hi d_M_hasColumns_66 ?_
              refine lv_iload_n hx hb d_M_hasColumns_67 rfl (lv_at hl 3 rfl) ?_
              refine lv_icmp_gt (tgt := 102) hx hb d_M_hasColumns_68 (by decide) (fun hc => ?_) (fun hc => ?_)
              · replace h := it_t h hc
                refine lv_iconst (v := (0 : Int32)) hx hb d_M_hasColumns_102 (by decide) ?_
                refine lv_istore_n (lv' := [(3, .int (0 : Int32)), (5, .int (ga s2 3 ((ga s2 24 ((gi s2 19)).toNatClampNeg)).toNatClampNeg)), (4, .int (ga s2 24 ((gi s2 19)).toNatClampNeg)), (0, .ref (a 0)), (2, .int x2)]) hx hb d_M_hasColumns_103 rfl hl (by decide) rfl (fun ls hl => ?_)
                refine lv_goto (tgt := 145) hx hb d_M_hasColumns_104 (by decide) ?_
                refine lv_goto (tgt := 12) hx hb d_M_hasColumns_145 (by decide) ?_
                exact ih12 s2 x2 (0 : Int32) H locs ls hP hD hS (lv_sub hl [3, 4, 0] rfl) h
              · replace h := it_f h hc
                refine lv_aload_n hx hb d_M_hasColumns_71 rfl (lv_at hl 2 rfl) ?_
                refine Mg_0_8 hx hb hB hown (hB _ m_869) hK hP d_M_hasColumns_72 ?_
                refine lv_iload hx hb d_M_hasColumns_75 (lv_at hl 1 rfl) ?_
                obtain ⟨hi, h⟩ := ckb_some h
                refine Ma_7 hx hb hK hP hi d_M_hasColumns_77 ?_
                refine lv_aload_n hx hb d_M_hasColumns_78 rfl (lv_at hl 2 rfl) ?_
                refine Mg_0_1 hx hb hB hown (hB _ m_862) hK hP d_M_hasColumns_79 ?_
                refine lv_aload_n hx hb d_M_hasColumns_82 rfl (lv_at hl 2 rfl) ?_
                refine Mg_0_17 hx hb hB hown (hB _ m_878) hK hP d_M_hasColumns_83 ?_
                refine lv_aload_n hx hb d_M_hasColumns_86 rfl (lv_at hl 2 rfl) ?_
                refine Mg_0_7 hx hb hB hown (hB _ m_868) hK hP d_M_hasColumns_87 ?_
                refine lv_iload hx hb d_M_hasColumns_90 (lv_at hl 1 rfl) ?_
                obtain ⟨hi, h⟩ := ckb_some h
                refine Ma_6 hx hb hK hP hi d_M_hasColumns_92 ?_
                obtain ⟨hi, h⟩ := ckb_some h
                refine Ma_14 hx hb hK hP hi d_M_hasColumns_93 ?_
                obtain ⟨hi, h⟩ := ckb_some h
                refine Ma_1 hx hb hK hP hi d_M_hasColumns_94 ?_
                refine lv_icmp_ge (tgt := 102) hx hb d_M_hasColumns_95 (by decide) (fun hc => ?_) (fun hc => ?_)
                · replace h := it_t h hc
                  refine lv_iconst (v := (0 : Int32)) hx hb d_M_hasColumns_102 (by decide) ?_
                  refine lv_istore_n (lv' := [(3, .int (0 : Int32)), (5, .int (ga s2 3 ((ga s2 24 ((gi s2 19)).toNatClampNeg)).toNatClampNeg)), (4, .int (ga s2 24 ((gi s2 19)).toNatClampNeg)), (0, .ref (a 0)), (2, .int x2)]) hx hb d_M_hasColumns_103 rfl hl (by decide) rfl (fun ls hl => ?_)
                  refine lv_goto (tgt := 145) hx hb d_M_hasColumns_104 (by decide) ?_
                  refine lv_goto (tgt := 12) hx hb d_M_hasColumns_145 (by decide) ?_
                  exact ih12 s2 x2 (0 : Int32) H locs ls hP hD hS (lv_sub hl [3, 4, 0] rfl) h
                · replace h := it_f h hc
                  refine lv_iconst (v := (1 : Int32)) hx hb d_M_hasColumns_98 (by decide) ?_
                  refine lv_goto (tgt := 103) hx hb d_M_hasColumns_99 (by decide) ?_
                  refine lv_istore_n (lv' := [(3, .int (1 : Int32)), (5, .int (ga s2 3 ((ga s2 24 ((gi s2 19)).toNatClampNeg)).toNatClampNeg)), (4, .int (ga s2 24 ((gi s2 19)).toNatClampNeg)), (0, .ref (a 0)), (2, .int x2)]) hx hb d_M_hasColumns_103 rfl hl (by decide) rfl (fun ls hl => ?_)
                  refine lv_goto (tgt := 145) hx hb d_M_hasColumns_104 (by decide) ?_
                  refine lv_goto (tgt := 12) hx hb d_M_hasColumns_145 (by decide) ?_
                  exact ih12 s2 x2 (1 : Int32) H locs ls hP hD hS (lv_sub hl [3, 4, 0] rfl) h
  obtain ⟨r9, s10, hr9, h⟩ := bd_some h
  cases r9
  refine go_VV (rest := []) ⟨hx, hb, hml, hown, hB⟩ nwM_ok (c_M_push l D ca g a tl N s1 s10 x1 hr9) (cwx_V hB m_1126 kw_M_push ⟨by rw [hR]; decide, by rw [hR]; decide⟩ rfl rfl) (va_recv hK hP (ci := 1) (q0 := 0) rfl rfl) hN hK hP hD hS hA rfl hl.1 rfl (Nat.le_of_ble_eq_true rfl) d_M_hasColumns_9 ⟨by rw [hR]; exact Nat.le_of_ble_eq_true rfl, by rw [hR]; exact Nat.le_of_ble_eq_true rfl⟩ (fun H locs hP hD hS => ?_)
  exact L12 N s10 x2 (1 : Int32) H locs ls hP hD hS (lv_sub hl [1, 3, 0] rfl) h
set_option maxRecDepth 100000 in
set_option maxHeartbeats 4000000 in
theorem c_M_areColumnsRight (l : Launch) (D : va_G) (ca : Nat → ClassId) (g : Bool) (a : Nat → Nat) (tl : va_W) (N : Nat) (σ σ' : St) (r : Int32) (h : f_M_areColumnsRight N σ = some (r, σ')) : CtI l y_M_areColumnsRight ws_M_areColumnsRight rm_M_areColumnsRight 0 0 D vCl (tyM ca) nwM [.ref (a 0)] (wM g ca a σ ++ tl) (wM g ca a σ' ++ tl) r := by
  refine en_Z (ws' := BIG) (by decide +kernel) rfl (Nat.le_of_ble_eq_true rfl) ?_
  intro p e s m below meth c A ls R args H locs hR hx hb hr hlk hml hown hB hK hN hP hD hA hS hl
  have hl : lv_has ls 3 [(0, .ref (a 0))] := hl
  unfold f_M_areColumnsRight at h
  refine lv_iconst (v := (1 : Int32)) hx hb d_M_areColumnsRight_0 (by decide) ?_
  refine lv_istore_n (lv' := [(1, .int (1 : Int32)), (0, .ref (a 0))]) hx hb d_M_areColumnsRight_1 rfl hl (by decide) rfl (fun ls hl => ?_)
  refine lv_iconst (v := (0 : Int32)) hx hb d_M_areColumnsRight_2 (by decide) ?_
  have L4 : ∀ (n : Nat) (σ : St) (x1 : Int32) (x2 : Int32) (H : Heap) (locs : List Loc) (ls : Array Slot), va_P D vCl (wM g ca a σ ++ tl) H → va_D A (wM g ca a σ ++ tl) → va_S A s.heap H locs → lv_has ls 3 [(0, .ref (a 0)), (1, .int x1), (2, .int x2)] → f_M_areColumnsRight_4 N n σ x1 x2 = some (r, σ') → W p l e R s m args below meth c H locs 0 0 (MQ below (qb_QI D vCl (tyM ca) (wM g ca a σ' ++ tl) A r) args s 0 0 A) (F0 m 4 ls []) := by
    intro n
    induction n with
    | zero => intro σ x1 x2 H locs ls hP hD hS hl h; cases h
    | succ n ih4 =>
        intro σ x1 x2 H locs ls hP hD hS hl h
        obtain ⟨K4, eK4⟩ : ∃ K, K = f_M_areColumnsRight_4 N n := ⟨_, rfl⟩
        rw [← eK4] at ih4
        replace h : f_M_areColumnsRight_4_b N K4 σ x1 x2 = some (r, σ') := by rw [eK4]; exact h
        unfold f_M_areColumnsRight_4_b at h
        refine lv_iload_n hx hb d_M_areColumnsRight_4 rfl (lv_at hl 2 rfl) ?_
        refine lv_aload_n hx hb d_M_areColumnsRight_5 rfl (lv_at hl 0 rfl) ?_
        refine Mg_0_16 hx hb hB hown (hB _ m_877) hK hP d_M_areColumnsRight_6 ?_
        refine lv_icmp_ge (tgt := 51) hx hb d_M_areColumnsRight_9 (by decide) (fun hc => ?_) (fun hc => ?_)
        · replace h := it_t h hc
          refine lv_iload_n hx hb d_M_areColumnsRight_51 rfl (lv_at hl 1 rfl) ?_
          refine lv_if_eq (tgt := 107) hx hb d_M_areColumnsRight_52 (by decide) (fun hc => ?_) (fun hc => ?_)
          · replace h := it_t h hc
            refine lv_iconst (v := (0 : Int32)) hx hb d_M_areColumnsRight_107 (by decide) ?_
            refine lv_istore_n (lv' := [(1, .int (0 : Int32)), (0, .ref (a 0)), (2, .int x2)]) hx hb d_M_areColumnsRight_108 rfl hl (by decide) rfl (fun ls hl => ?_)
            refine lv_iconst (v := (0 : Int32)) hx hb d_M_areColumnsRight_109 (by decide) ?_
            have L111 : ∀ (n : Nat) (σ : St) (x1 : Int32) (x2 : Int32) (H : Heap) (locs : List Loc) (ls : Array Slot), va_P D vCl (wM g ca a σ ++ tl) H → va_D A (wM g ca a σ ++ tl) → va_S A s.heap H locs → lv_has ls 3 [(0, .ref (a 0)), (1, .int x1), (2, .int x2)] → f_M_areColumnsRight_111 N n σ x1 x2 = some (r, σ') → W p l e R s m args below meth c H locs 0 0 (MQ below (qb_QI D vCl (tyM ca) (wM g ca a σ' ++ tl) A r) args s 0 0 A) (F0 m 111 ls []) := by
              intro n
              induction n with
              | zero => intro σ x1 x2 H locs ls hP hD hS hl h; cases h
              | succ n ih111 =>
                  intro σ x1 x2 H locs ls hP hD hS hl h
                  obtain ⟨K111, eK111⟩ : ∃ K, K = f_M_areColumnsRight_111 N n := ⟨_, rfl⟩
                  rw [← eK111] at ih111
                  replace h : f_M_areColumnsRight_111_b N K111 σ x1 x2 = some (r, σ') := by rw [eK111]; exact h
                  unfold f_M_areColumnsRight_111_b at h
                  refine lv_iload_n hx hb d_M_areColumnsRight_111 rfl (lv_at hl 2 rfl) ?_
                  refine lv_aload_n hx hb d_M_areColumnsRight_112 rfl (lv_at hl 0 rfl) ?_
                  refine Mg_0_22 hx hb hB hown (hB _ m_883) hK hP d_M_areColumnsRight_113 ?_
                  refine lv_icmp_ge (tgt := 154) hx hb d_M_areColumnsRight_116 (by decide) (fun hc => ?_) (fun hc => ?_)
                  · replace h := it_t h hc
                    refine lv_iconst (v := (0 : Int32)) hx hb d_M_areColumnsRight_154 (by decide) ?_
                    have L156 : ∀ (n : Nat) (σ : St) (x1 : Int32) (x2 : Int32) (H : Heap) (locs : List Loc) (ls : Array Slot), va_P D vCl (wM g ca a σ ++ tl) H → va_D A (wM g ca a σ ++ tl) → va_S A s.heap H locs → lv_has ls 3 [(0, .ref (a 0)), (1, .int x1), (2, .int x2)] → f_M_areColumnsRight_156 N n σ x1 x2 = some (r, σ') → W p l e R s m args below meth c H locs 0 0 (MQ below (qb_QI D vCl (tyM ca) (wM g ca a σ' ++ tl) A r) args s 0 0 A) (F0 m 156 ls []) := by
                      intro n
                      induction n with
                      | zero => intro σ x1 x2 H locs ls hP hD hS hl h; cases h
                      | succ n ih156 =>
                          intro σ x1 x2 H locs ls hP hD hS hl h
                          obtain ⟨K156, eK156⟩ : ∃ K, K = f_M_areColumnsRight_156 N n := ⟨_, rfl⟩
                          rw [← eK156] at ih156
                          replace h : f_M_areColumnsRight_156_b N K156 σ x1 x2 = some (r, σ') := by rw [eK156]; exact h
                          unfold f_M_areColumnsRight_156_b at h
                          refine lv_iload_n hx hb d_M_areColumnsRight_156 rfl (lv_at hl 2 rfl) ?_
                          refine lv_aload_n hx hb d_M_areColumnsRight_157 rfl (lv_at hl 0 rfl) ?_
                          refine Mg_0_24 hx hb hB hown (hB _ m_885) hK hP d_M_areColumnsRight_158 ?_
                          refine lv_icmp_ge (tgt := 199) hx hb d_M_areColumnsRight_161 (by decide) (fun hc => ?_) (fun hc => ?_)
                          · replace h := it_t h hc
                            refine lv_iload_n hx hb d_M_areColumnsRight_199 rfl (lv_at hl 1 rfl) ?_
                            obtain ⟨hi, h⟩ := ckt_some h
                            exact rf_Z (w := (fun z => wM g ca a z ++ tl)) h hx hb hr hlk hK hP hD hS hi.1 d_M_areColumnsRight_200
                          · replace h := it_f h hc
                            refine lv_iload_n hx hb d_M_areColumnsRight_164 rfl (lv_at hl 1 rfl) ?_
                            refine lv_if_eq (tgt := 191) hx hb d_M_areColumnsRight_165 (by decide) (fun hc => ?_) (fun hc => ?_)
                            · replace h := it_t h hc
                              refine lv_iconst (v := (0 : Int32)) hx hb d_M_areColumnsRight_191 (by decide) ?_
                              refine lv_istore_n (lv' := [(1, .int (0 : Int32)), (0, .ref (a 0)), (2, .int x2)]) hx hb d_M_areColumnsRight_192 rfl hl (by decide) rfl (fun ls hl => ?_)
                              refine lv_iinc (v := (x2 + 1)) (lv' := [(2, .int (x2 + 1)), (1, .int (0 : Int32)), (0, .ref (a 0))]) hx hb d_M_areColumnsRight_193 hl (k := 2) rfl rfl (by decide) rfl (fun ls hl => ?_)
                              refine lv_goto (tgt := 156) hx hb d_M_areColumnsRight_196 (by decide) ?_
                              exact ih156 σ (0 : Int32) (x2 + 1) H locs ls hP hD hS (lv_sub hl [2, 1, 0] rfl) h
                            · replace h := it_f h hc
                              refine lv_aload_n hx hb d_M_areColumnsRight_168 rfl (lv_at hl 0 rfl) ?_
                              refine lv_aload_n hx hb d_M_areColumnsRight_169 rfl (lv_at hl 0 rfl) ?_
                              refine Mg_0_25 hx hb hB hown (hB _ m_886) hK hP d_M_areColumnsRight_170 ?_
                              refine lv_iload_n hx hb d_M_areColumnsRight_173 rfl (lv_at hl 2 rfl) ?_
                              obtain ⟨hi, h⟩ := ckb_some h
                              refine Ma_18 hx hb hK hP hi d_M_areColumnsRight_174 ?_
                              refine lv_aload_n hx hb d_M_areColumnsRight_175 rfl (lv_at hl 0 rfl) ?_
                              refine Mg_0_16 hx hb hB hown (hB _ m_877) hK hP d_M_areColumnsRight_176 ?_
                              refine lv_iconst (v := (1 : Int32)) hx hb d_M_areColumnsRight_179 (by decide) ?_
                              refine lv_isub hx hb d_M_areColumnsRight_180 ?_
                              obtain ⟨r1, s2, hr1, h⟩ := bd_some h
                              refine go_VI (rest := []) ⟨hx, hb, hml, hown, hB⟩ nwM_ok (c_M_hasColumns l D ca g a tl N σ s2 (ga σ 15 (x2).toNatClampNeg) ((gi σ 3) - (1 : Int32)) r1 hr1) (cwx_V hB m_1122 kw_M_hasColumns ⟨by rw [hR]; decide, by rw [hR]; decide⟩ rfl rfl) (va_recv hK hP (ci := 1) (q0 := 0) rfl rfl) hN hK hP hD hS hA rfl hl.1 rfl (Nat.le_of_ble_eq_true rfl) d_M_areColumnsRight_181 ⟨by rw [hR]; exact Nat.le_of_ble_eq_true rfl, by rw [hR]; exact Nat.le_of_ble_eq_true rfl⟩ (fun H locs hP hD hS => ?_)
                              refine lv_if_eq (tgt := 191) hx hb d_M_areColumnsRight_184 (by decide) (fun hc => ?_) (fun hc => ?_)
                              · replace h := it_t h hc
                                refine lv_iconst (v := (0 : Int32)) hx hb d_M_areColumnsRight_191 (by decide) ?_
                                refine lv_istore_n (lv' := [(1, .int (0 : Int32)), (0, .ref (a 0)), (2, .int x2)]) hx hb d_M_areColumnsRight_192 rfl hl (by decide) rfl (fun ls hl => ?_)
                                refine lv_iinc (v := (x2 + 1)) (lv' := [(2, .int (x2 + 1)), (1, .int (0 : Int32)), (0, .ref (a 0))]) hx hb d_M_areColumnsRight_193 hl (k := 2) rfl rfl (by decide) rfl (fun ls hl => ?_)
                                refine lv_goto (tgt := 156) hx hb d_M_areColumnsRight_196 (by decide) ?_
                                exact ih156 s2 (0 : Int32) (x2 + 1) H locs ls hP hD hS (lv_sub hl [2, 1, 0] rfl) h
                              · replace h := it_f h hc
                                refine lv_iconst (v := (1 : Int32)) hx hb d_M_areColumnsRight_187 (by decide) ?_
                                refine lv_goto (tgt := 192) hx hb d_M_areColumnsRight_188 (by decide) ?_
                                refine lv_istore_n (lv' := [(1, .int (1 : Int32)), (0, .ref (a 0)), (2, .int x2)]) hx hb d_M_areColumnsRight_192 rfl hl (by decide) rfl (fun ls hl => ?_)
                                refine lv_iinc (v := (x2 + 1)) (lv' := [(2, .int (x2 + 1)), (1, .int (1 : Int32)), (0, .ref (a 0))]) hx hb d_M_areColumnsRight_193 hl (k := 2) rfl rfl (by decide) rfl (fun ls hl => ?_)
                                refine lv_goto (tgt := 156) hx hb d_M_areColumnsRight_196 (by decide) ?_
                                exact ih156 s2 (1 : Int32) (x2 + 1) H locs ls hP hD hS (lv_sub hl [2, 1, 0] rfl) h
                    refine lv_istore_n (lv' := [(2, .int (0 : Int32)), (0, .ref (a 0)), (1, .int x1)]) hx hb d_M_areColumnsRight_155 rfl hl (by decide) rfl (fun ls hl => ?_)
                    exact L156 N σ x1 (0 : Int32) H locs ls hP hD hS (lv_sub hl [1, 2, 0] rfl) h
                  · replace h := it_f h hc
                    refine lv_iload_n hx hb d_M_areColumnsRight_119 rfl (lv_at hl 1 rfl) ?_
                    refine lv_if_eq (tgt := 146) hx hb d_M_areColumnsRight_120 (by decide) (fun hc => ?_) (fun hc => ?_)
                    · replace h := it_t h hc
                      refine lv_iconst (v := (0 : Int32)) hx hb d_M_areColumnsRight_146 (by decide) ?_
                      refine lv_istore_n (lv' := [(1, .int (0 : Int32)), (0, .ref (a 0)), (2, .int x2)]) hx hb d_M_areColumnsRight_147 rfl hl (by decide) rfl (fun ls hl => ?_)
                      refine lv_iinc (v := (x2 + 1)) (lv' := [(2, .int (x2 + 1)), (1, .int (0 : Int32)), (0, .ref (a 0))]) hx hb d_M_areColumnsRight_148 hl (k := 2) rfl rfl (by decide) rfl (fun ls hl => ?_)
                      refine lv_goto (tgt := 111) hx hb d_M_areColumnsRight_151 (by decide) ?_
                      exact ih111 σ (0 : Int32) (x2 + 1) H locs ls hP hD hS (lv_sub hl [2, 1, 0] rfl) h
                    · replace h := it_f h hc
                      refine lv_aload_n hx hb d_M_areColumnsRight_123 rfl (lv_at hl 0 rfl) ?_
                      refine lv_aload_n hx hb d_M_areColumnsRight_124 rfl (lv_at hl 0 rfl) ?_
                      refine Mg_0_23 hx hb hB hown (hB _ m_884) hK hP d_M_areColumnsRight_125 ?_
                      refine lv_iload_n hx hb d_M_areColumnsRight_128 rfl (lv_at hl 2 rfl) ?_
                      obtain ⟨hi, h⟩ := ckb_some h
                      refine Ma_17 hx hb hK hP hi d_M_areColumnsRight_129 ?_
                      refine lv_aload_n hx hb d_M_areColumnsRight_130 rfl (lv_at hl 0 rfl) ?_
                      refine Mg_0_16 hx hb hB hown (hB _ m_877) hK hP d_M_areColumnsRight_131 ?_
                      refine lv_iconst (v := (1 : Int32)) hx hb d_M_areColumnsRight_134 (by decide) ?_
                      refine lv_isub hx hb d_M_areColumnsRight_135 ?_
                      obtain ⟨r3, s4, hr3, h⟩ := bd_some h
                      refine go_VI (rest := []) ⟨hx, hb, hml, hown, hB⟩ nwM_ok (c_M_hasColumns l D ca g a tl N σ s4 (ga σ 14 (x2).toNatClampNeg) ((gi σ 3) - (1 : Int32)) r3 hr3) (cwx_V hB m_1122 kw_M_hasColumns ⟨by rw [hR]; decide, by rw [hR]; decide⟩ rfl rfl) (va_recv hK hP (ci := 1) (q0 := 0) rfl rfl) hN hK hP hD hS hA rfl hl.1 rfl (Nat.le_of_ble_eq_true rfl) d_M_areColumnsRight_136 ⟨by rw [hR]; exact Nat.le_of_ble_eq_true rfl, by rw [hR]; exact Nat.le_of_ble_eq_true rfl⟩ (fun H locs hP hD hS => ?_)
                      refine lv_if_eq (tgt := 146) hx hb d_M_areColumnsRight_139 (by decide) (fun hc => ?_) (fun hc => ?_)
                      · replace h := it_t h hc
                        refine lv_iconst (v := (0 : Int32)) hx hb d_M_areColumnsRight_146 (by decide) ?_
                        refine lv_istore_n (lv' := [(1, .int (0 : Int32)), (0, .ref (a 0)), (2, .int x2)]) hx hb d_M_areColumnsRight_147 rfl hl (by decide) rfl (fun ls hl => ?_)
                        refine lv_iinc (v := (x2 + 1)) (lv' := [(2, .int (x2 + 1)), (1, .int (0 : Int32)), (0, .ref (a 0))]) hx hb d_M_areColumnsRight_148 hl (k := 2) rfl rfl (by decide) rfl (fun ls hl => ?_)
                        refine lv_goto (tgt := 111) hx hb d_M_areColumnsRight_151 (by decide) ?_
                        exact ih111 s4 (0 : Int32) (x2 + 1) H locs ls hP hD hS (lv_sub hl [2, 1, 0] rfl) h
                      · replace h := it_f h hc
                        refine lv_iconst (v := (1 : Int32)) hx hb d_M_areColumnsRight_142 (by decide) ?_
                        refine lv_goto (tgt := 147) hx hb d_M_areColumnsRight_143 (by decide) ?_
                        refine lv_istore_n (lv' := [(1, .int (1 : Int32)), (0, .ref (a 0)), (2, .int x2)]) hx hb d_M_areColumnsRight_147 rfl hl (by decide) rfl (fun ls hl => ?_)
                        refine lv_iinc (v := (x2 + 1)) (lv' := [(2, .int (x2 + 1)), (1, .int (1 : Int32)), (0, .ref (a 0))]) hx hb d_M_areColumnsRight_148 hl (k := 2) rfl rfl (by decide) rfl (fun ls hl => ?_)
                        refine lv_goto (tgt := 111) hx hb d_M_areColumnsRight_151 (by decide) ?_
                        exact ih111 s4 (1 : Int32) (x2 + 1) H locs ls hP hD hS (lv_sub hl [2, 1, 0] rfl) h
            refine lv_istore_n (lv' := [(2, .int (0 : Int32)), (1, .int (0 : Int32)), (0, .ref (a 0))]) hx hb d_M_areColumnsRight_110 rfl hl (by decide) rfl (fun ls hl => ?_)
            exact L111 N σ (0 : Int32) (0 : Int32) H locs ls hP hD hS (lv_sub hl [2, 1, 0] rfl) h
          · replace h := it_f h hc
            refine lv_aload_n hx hb d_M_areColumnsRight_55 rfl (lv_at hl 0 rfl) ?_
            refine Mg_0_20 hx hb hB hown (hB _ m_881) hK hP d_M_areColumnsRight_56 ?_
            have L79 : ∀ (σ : St) (H : Heap) (locs : List Loc) (ls : Array Slot), va_P D vCl (wM g ca a σ ++ tl) H → va_D A (wM g ca a σ ++ tl) → va_S A s.heap H locs → lv_has ls 3 [(0, .ref (a 0))] → f_M_areColumnsRight_79 N σ = some (r, σ') → W p l e R s m args below meth c H locs 0 0 (MQ below (qb_QI D vCl (tyM ca) (wM g ca a σ' ++ tl) A r) args s 0 0 A) (F0 m 79 ls []) := by
              intro σ H locs ls hP hD hS hl h
              unfold f_M_areColumnsRight_79 at h
              refine lv_aload_n hx hb d_M_areColumnsRight_79 rfl (lv_at hl 0 rfl) ?_
              refine Mg_0_21 hx hb hB hown (hB _ m_882) hK hP d_M_areColumnsRight_80 ?_
              refine lv_if_lt (tgt := 103) hx hb d_M_areColumnsRight_83 (by decide) (fun hc => ?_) (fun hc => ?_)
              · replace h := it_t h hc
                refine lv_iconst (v := (1 : Int32)) hx hb d_M_areColumnsRight_103 (by decide) ?_
                refine lv_goto (tgt := 108) hx hb d_M_areColumnsRight_104 (by decide) ?_
                refine lv_istore_n (lv' := [(1, .int (1 : Int32)), (0, .ref (a 0))]) hx hb d_M_areColumnsRight_108 rfl hl (by decide) rfl (fun ls hl => ?_)
                refine lv_iconst (v := (0 : Int32)) hx hb d_M_areColumnsRight_109 (by decide) ?_
                have L111 : ∀ (n : Nat) (σ : St) (x1 : Int32) (x2 : Int32) (H : Heap) (locs : List Loc) (ls : Array Slot), va_P D vCl (wM g ca a σ ++ tl) H → va_D A (wM g ca a σ ++ tl) → va_S A s.heap H locs → lv_has ls 3 [(0, .ref (a 0)), (1, .int x1), (2, .int x2)] → f_M_areColumnsRight_111 N n σ x1 x2 = some (r, σ') → W p l e R s m args below meth c H locs 0 0 (MQ below (qb_QI D vCl (tyM ca) (wM g ca a σ' ++ tl) A r) args s 0 0 A) (F0 m 111 ls []) := by
                  intro n
                  induction n with
                  | zero => intro σ x1 x2 H locs ls hP hD hS hl h; cases h
                  | succ n ih111 =>
                      intro σ x1 x2 H locs ls hP hD hS hl h
                      obtain ⟨K111, eK111⟩ : ∃ K, K = f_M_areColumnsRight_111 N n := ⟨_, rfl⟩
                      rw [← eK111] at ih111
                      replace h : f_M_areColumnsRight_111_b N K111 σ x1 x2 = some (r, σ') := by rw [eK111]; exact h
                      unfold f_M_areColumnsRight_111_b at h
                      refine lv_iload_n hx hb d_M_areColumnsRight_111 rfl (lv_at hl 2 rfl) ?_
                      refine lv_aload_n hx hb d_M_areColumnsRight_112 rfl (lv_at hl 0 rfl) ?_
                      refine Mg_0_22 hx hb hB hown (hB _ m_883) hK hP d_M_areColumnsRight_113 ?_
                      refine lv_icmp_ge (tgt := 154) hx hb d_M_areColumnsRight_116 (by decide) (fun hc => ?_) (fun hc => ?_)
                      · replace h := it_t h hc
                        refine lv_iconst (v := (0 : Int32)) hx hb d_M_areColumnsRight_154 (by decide) ?_
                        have L156 : ∀ (n : Nat) (σ : St) (x1 : Int32) (x2 : Int32) (H : Heap) (locs : List Loc) (ls : Array Slot), va_P D vCl (wM g ca a σ ++ tl) H → va_D A (wM g ca a σ ++ tl) → va_S A s.heap H locs → lv_has ls 3 [(0, .ref (a 0)), (1, .int x1), (2, .int x2)] → f_M_areColumnsRight_156 N n σ x1 x2 = some (r, σ') → W p l e R s m args below meth c H locs 0 0 (MQ below (qb_QI D vCl (tyM ca) (wM g ca a σ' ++ tl) A r) args s 0 0 A) (F0 m 156 ls []) := by
                          intro n
                          induction n with
                          | zero => intro σ x1 x2 H locs ls hP hD hS hl h; cases h
                          | succ n ih156 =>
                              intro σ x1 x2 H locs ls hP hD hS hl h
                              obtain ⟨K156, eK156⟩ : ∃ K, K = f_M_areColumnsRight_156 N n := ⟨_, rfl⟩
                              rw [← eK156] at ih156
                              replace h : f_M_areColumnsRight_156_b N K156 σ x1 x2 = some (r, σ') := by rw [eK156]; exact h
                              unfold f_M_areColumnsRight_156_b at h
                              refine lv_iload_n hx hb d_M_areColumnsRight_156 rfl (lv_at hl 2 rfl) ?_
                              refine lv_aload_n hx hb d_M_areColumnsRight_157 rfl (lv_at hl 0 rfl) ?_
                              refine Mg_0_24 hx hb hB hown (hB _ m_885) hK hP d_M_areColumnsRight_158 ?_
                              refine lv_icmp_ge (tgt := 199) hx hb d_M_areColumnsRight_161 (by decide) (fun hc => ?_) (fun hc => ?_)
                              · replace h := it_t h hc
                                refine lv_iload_n hx hb d_M_areColumnsRight_199 rfl (lv_at hl 1 rfl) ?_
                                obtain ⟨hi, h⟩ := ckt_some h
                                exact rf_Z (w := (fun z => wM g ca a z ++ tl)) h hx hb hr hlk hK hP hD hS hi.1 d_M_areColumnsRight_200
                              · replace h := it_f h hc
                                refine lv_iload_n hx hb d_M_areColumnsRight_164 rfl (lv_at hl 1 rfl) ?_
                                refine lv_if_eq (tgt := 191) hx hb d_M_areColumnsRight_165 (by decide) (fun hc => ?_) (fun hc => ?_)
                                · replace h := it_t h hc
                                  refine lv_iconst (v := (0 : Int32)) hx hb d_M_areColumnsRight_191 (by decide) ?_
                                  refine lv_istore_n (lv' := [(1, .int (0 : Int32)), (0, .ref (a 0)), (2, .int x2)]) hx hb d_M_areColumnsRight_192 rfl hl (by decide) rfl (fun ls hl => ?_)
                                  refine lv_iinc (v := (x2 + 1)) (lv' := [(2, .int (x2 + 1)), (1, .int (0 : Int32)), (0, .ref (a 0))]) hx hb d_M_areColumnsRight_193 hl (k := 2) rfl rfl (by decide) rfl (fun ls hl => ?_)
                                  refine lv_goto (tgt := 156) hx hb d_M_areColumnsRight_196 (by decide) ?_
                                  exact ih156 σ (0 : Int32) (x2 + 1) H locs ls hP hD hS (lv_sub hl [2, 1, 0] rfl) h
                                · replace h := it_f h hc
                                  refine lv_aload_n hx hb d_M_areColumnsRight_168 rfl (lv_at hl 0 rfl) ?_
                                  refine lv_aload_n hx hb d_M_areColumnsRight_169 rfl (lv_at hl 0 rfl) ?_
                                  refine Mg_0_25 hx hb hB hown (hB _ m_886) hK hP d_M_areColumnsRight_170 ?_
                                  refine lv_iload_n hx hb d_M_areColumnsRight_173 rfl (lv_at hl 2 rfl) ?_
                                  obtain ⟨hi, h⟩ := ckb_some h
                                  refine Ma_18 hx hb hK hP hi d_M_areColumnsRight_174 ?_
                                  refine lv_aload_n hx hb d_M_areColumnsRight_175 rfl (lv_at hl 0 rfl) ?_
                                  refine Mg_0_16 hx hb hB hown (hB _ m_877) hK hP d_M_areColumnsRight_176 ?_
                                  refine lv_iconst (v := (1 : Int32)) hx hb d_M_areColumnsRight_179 (by decide) ?_
                                  refine lv_isub hx hb d_M_areColumnsRight_180 ?_
                                  obtain ⟨r5, s6, hr5, h⟩ := bd_some h
                                  refine go_VI (rest := []) ⟨hx, hb, hml, hown, hB⟩ nwM_ok (c_M_hasColumns l D ca g a tl N σ s6 (ga σ 15 (x2).toNatClampNeg) ((gi σ 3) - (1 : Int32)) r5 hr5) (cwx_V hB m_1122 kw_M_hasColumns ⟨by rw [hR]; decide, by rw [hR]; decide⟩ rfl rfl) (va_recv hK hP (ci := 1) (q0 := 0) rfl rfl) hN hK hP hD hS hA rfl hl.1 rfl (Nat.le_of_ble_eq_true rfl) d_M_areColumnsRight_181 ⟨by rw [hR]; exact Nat.le_of_ble_eq_true rfl, by rw [hR]; exact Nat.le_of_ble_eq_true rfl⟩ (fun H locs hP hD hS => ?_)
                                  refine lv_if_eq (tgt := 191) hx hb d_M_areColumnsRight_184 (by decide) (fun hc => ?_) (fun hc => ?_)
                                  · replace h := it_t h hc
                                    refine lv_iconst (v := (0 : Int32)) hx hb d_M_areColumnsRight_191 (by decide) ?_
                                    refine lv_istore_n (lv' := [(1, .int (0 : Int32)), (0, .ref (a 0)), (2, .int x2)]) hx hb d_M_areColumnsRight_192 rfl hl (by decide) rfl (fun ls hl => ?_)
                                    refine lv_iinc (v := (x2 + 1)) (lv' := [(2, .int (x2 + 1)), (1, .int (0 : Int32)), (0, .ref (a 0))]) hx hb d_M_areColumnsRight_193 hl (k := 2) rfl rfl (by decide) rfl (fun ls hl => ?_)
                                    refine lv_goto (tgt := 156) hx hb d_M_areColumnsRight_196 (by decide) ?_
                                    exact ih156 s6 (0 : Int32) (x2 + 1) H locs ls hP hD hS (lv_sub hl [2, 1, 0] rfl) h
                                  · replace h := it_f h hc
                                    refine lv_iconst (v := (1 : Int32)) hx hb d_M_areColumnsRight_187 (by decide) ?_
                                    refine lv_goto (tgt := 192) hx hb d_M_areColumnsRight_188 (by decide) ?_
                                    refine lv_istore_n (lv' := [(1, .int (1 : Int32)), (0, .ref (a 0)), (2, .int x2)]) hx hb d_M_areColumnsRight_192 rfl hl (by decide) rfl (fun ls hl => ?_)
                                    refine lv_iinc (v := (x2 + 1)) (lv' := [(2, .int (x2 + 1)), (1, .int (1 : Int32)), (0, .ref (a 0))]) hx hb d_M_areColumnsRight_193 hl (k := 2) rfl rfl (by decide) rfl (fun ls hl => ?_)
                                    refine lv_goto (tgt := 156) hx hb d_M_areColumnsRight_196 (by decide) ?_
                                    exact ih156 s6 (1 : Int32) (x2 + 1) H locs ls hP hD hS (lv_sub hl [2, 1, 0] rfl) h
                        refine lv_istore_n (lv' := [(2, .int (0 : Int32)), (0, .ref (a 0)), (1, .int x1)]) hx hb d_M_areColumnsRight_155 rfl hl (by decide) rfl (fun ls hl => ?_)
                        exact L156 N σ x1 (0 : Int32) H locs ls hP hD hS (lv_sub hl [1, 2, 0] rfl) h
                      · replace h := it_f h hc
                        refine lv_iload_n hx hb d_M_areColumnsRight_119 rfl (lv_at hl 1 rfl) ?_
                        refine lv_if_eq (tgt := 146) hx hb d_M_areColumnsRight_120 (by decide) (fun hc => ?_) (fun hc => ?_)
                        · replace h := it_t h hc
                          refine lv_iconst (v := (0 : Int32)) hx hb d_M_areColumnsRight_146 (by decide) ?_
                          refine lv_istore_n (lv' := [(1, .int (0 : Int32)), (0, .ref (a 0)), (2, .int x2)]) hx hb d_M_areColumnsRight_147 rfl hl (by decide) rfl (fun ls hl => ?_)
                          refine lv_iinc (v := (x2 + 1)) (lv' := [(2, .int (x2 + 1)), (1, .int (0 : Int32)), (0, .ref (a 0))]) hx hb d_M_areColumnsRight_148 hl (k := 2) rfl rfl (by decide) rfl (fun ls hl => ?_)
                          refine lv_goto (tgt := 111) hx hb d_M_areColumnsRight_151 (by decide) ?_
                          exact ih111 σ (0 : Int32) (x2 + 1) H locs ls hP hD hS (lv_sub hl [2, 1, 0] rfl) h
                        · replace h := it_f h hc
                          refine lv_aload_n hx hb d_M_areColumnsRight_123 rfl (lv_at hl 0 rfl) ?_
                          refine lv_aload_n hx hb d_M_areColumnsRight_124 rfl (lv_at hl 0 rfl) ?_
                          refine Mg_0_23 hx hb hB hown (hB _ m_884) hK hP d_M_areColumnsRight_125 ?_
                          refine lv_iload_n hx hb d_M_areColumnsRight_128 rfl (lv_at hl 2 rfl) ?_
                          obtain ⟨hi, h⟩ := ckb_some h
                          refine Ma_17 hx hb hK hP hi d_M_areColumnsRight_129 ?_
                          refine lv_aload_n hx hb d_M_areColumnsRight_130 rfl (lv_at hl 0 rfl) ?_
                          refine Mg_0_16 hx hb hB hown (hB _ m_877) hK hP d_M_areColumnsRight_131 ?_
                          refine lv_iconst (v := (1 : Int32)) hx hb d_M_areColumnsRight_134 (by decide) ?_
                          refine lv_isub hx hb d_M_areColumnsRight_135 ?_
                          obtain ⟨r7, s8, hr7, h⟩ := bd_some h
                          refine go_VI (rest := []) ⟨hx, hb, hml, hown, hB⟩ nwM_ok (c_M_hasColumns l D ca g a tl N σ s8 (ga σ 14 (x2).toNatClampNeg) ((gi σ 3) - (1 : Int32)) r7 hr7) (cwx_V hB m_1122 kw_M_hasColumns ⟨by rw [hR]; decide, by rw [hR]; decide⟩ rfl rfl) (va_recv hK hP (ci := 1) (q0 := 0) rfl rfl) hN hK hP hD hS hA rfl hl.1 rfl (Nat.le_of_ble_eq_true rfl) d_M_areColumnsRight_136 ⟨by rw [hR]; exact Nat.le_of_ble_eq_true rfl, by rw [hR]; exact Nat.le_of_ble_eq_true rfl⟩ (fun H locs hP hD hS => ?_)
                          refine lv_if_eq (tgt := 146) hx hb d_M_areColumnsRight_139 (by decide) (fun hc => ?_) (fun hc => ?_)
                          · replace h := it_t h hc
                            refine lv_iconst (v := (0 : Int32)) hx hb d_M_areColumnsRight_146 (by decide) ?_
                            refine lv_istore_n (lv' := [(1, .int (0 : Int32)), (0, .ref (a 0)), (2, .int x2)]) hx hb d_M_areColumnsRight_147 rfl hl (by decide) rfl (fun ls hl => ?_)
                            refine lv_iinc (v := (x2 + 1)) (lv' := [(2, .int (x2 + 1)), (1, .int (0 : Int32)), (0, .ref (a 0))]) hx hb d_M_areColumnsRight_148 hl (k := 2) rfl rfl (by decide) rfl (fun ls hl => ?_)
                            refine lv_goto (tgt := 111) hx hb d_M_areColumnsRight_151 (by decide) ?_
                            exact ih111 s8 (0 : Int32) (x2 + 1) H locs ls hP hD hS (lv_sub hl [2, 1, 0] rfl) h
                          · replace h := it_f h hc
                            refine lv_iconst (v := (1 : Int32)) hx hb d_M_areColumnsRight_142 (by decide) ?_
                            refine lv_goto (tgt := 147) hx hb d_M_areColumnsRight_143 (by decide) ?_
                            refine lv_istore_n (lv' := [(1, .int (1 : Int32)), (0, .ref (a 0)), (2, .int x2)]) hx hb d_M_areColumnsRight_147 rfl hl (by decide) rfl (fun ls hl => ?_)
                            refine lv_iinc (v := (x2 + 1)) (lv' := [(2, .int (x2 + 1)), (1, .int (1 : Int32)), (0, .ref (a 0))]) hx hb d_M_areColumnsRight_148 hl (k := 2) rfl rfl (by decide) rfl (fun ls hl => ?_)
                            refine lv_goto (tgt := 111) hx hb d_M_areColumnsRight_151 (by decide) ?_
                            exact ih111 s8 (1 : Int32) (x2 + 1) H locs ls hP hD hS (lv_sub hl [2, 1, 0] rfl) h
                refine lv_istore_n (lv' := [(2, .int (0 : Int32)), (1, .int (1 : Int32)), (0, .ref (a 0))]) hx hb d_M_areColumnsRight_110 rfl hl (by decide) rfl (fun ls hl => ?_)
                exact L111 N σ (1 : Int32) (0 : Int32) H locs ls hP hD hS (lv_sub hl [2, 1, 0] rfl) h
              · replace h := it_f h hc
                refine lv_aload_n hx hb d_M_areColumnsRight_86 rfl (lv_at hl 0 rfl) ?_
                refine lv_aload_n hx hb d_M_areColumnsRight_87 rfl (lv_at hl 0 rfl) ?_
                refine Mg_0_21 hx hb hB hown (hB _ m_882) hK hP d_M_areColumnsRight_88 ?_
                refine lv_aload_n hx hb d_M_areColumnsRight_91 rfl (lv_at hl 0 rfl) ?_
                refine Mg_0_16 hx hb hB hown (hB _ m_877) hK hP d_M_areColumnsRight_92 ?_
                refine lv_iconst (v := (1 : Int32)) hx hb d_M_areColumnsRight_95 (by decide) ?_
                refine lv_isub hx hb d_M_areColumnsRight_96 ?_
                obtain ⟨r9, s10, hr9, h⟩ := bd_some h
                refine go_VI (rest := []) ⟨hx, hb, hml, hown, hB⟩ nwM_ok (c_M_hasColumns l D ca g a tl N σ s10 (gi σ 5) ((gi σ 3) - (1 : Int32)) r9 hr9) (cwx_V hB m_1122 kw_M_hasColumns ⟨by rw [hR]; decide, by rw [hR]; decide⟩ rfl rfl) (va_recv hK hP (ci := 1) (q0 := 0) rfl rfl) hN hK hP hD hS hA rfl hl.1 rfl (Nat.le_of_ble_eq_true rfl) d_M_areColumnsRight_97 ⟨by rw [hR]; exact Nat.le_of_ble_eq_true rfl, by rw [hR]; exact Nat.le_of_ble_eq_true rfl⟩ (fun H locs hP hD hS => ?_)
                refine lv_if_eq (tgt := 107) hx hb d_M_areColumnsRight_100 (by decide) (fun hc => ?_) (fun hc => ?_)
                · replace h := it_t h hc
                  refine lv_iconst (v := (0 : Int32)) hx hb d_M_areColumnsRight_107 (by decide) ?_
                  refine lv_istore_n (lv' := [(1, .int (0 : Int32)), (0, .ref (a 0))]) hx hb d_M_areColumnsRight_108 rfl hl (by decide) rfl (fun ls hl => ?_)
                  refine lv_iconst (v := (0 : Int32)) hx hb d_M_areColumnsRight_109 (by decide) ?_
                  have L111 : ∀ (n : Nat) (σ : St) (x1 : Int32) (x2 : Int32) (H : Heap) (locs : List Loc) (ls : Array Slot), va_P D vCl (wM g ca a σ ++ tl) H → va_D A (wM g ca a σ ++ tl) → va_S A s.heap H locs → lv_has ls 3 [(0, .ref (a 0)), (1, .int x1), (2, .int x2)] → f_M_areColumnsRight_111 N n σ x1 x2 = some (r, σ') → W p l e R s m args below meth c H locs 0 0 (MQ below (qb_QI D vCl (tyM ca) (wM g ca a σ' ++ tl) A r) args s 0 0 A) (F0 m 111 ls []) := by
                    intro n
                    induction n with
                    | zero => intro σ x1 x2 H locs ls hP hD hS hl h; cases h
                    | succ n ih111 =>
                        intro σ x1 x2 H locs ls hP hD hS hl h
                        obtain ⟨K111, eK111⟩ : ∃ K, K = f_M_areColumnsRight_111 N n := ⟨_, rfl⟩
                        rw [← eK111] at ih111
                        replace h : f_M_areColumnsRight_111_b N K111 σ x1 x2 = some (r, σ') := by rw [eK111]; exact h
                        unfold f_M_areColumnsRight_111_b at h
                        refine lv_iload_n hx hb d_M_areColumnsRight_111 rfl (lv_at hl 2 rfl) ?_
                        refine lv_aload_n hx hb d_M_areColumnsRight_112 rfl (lv_at hl 0 rfl) ?_
                        refine Mg_0_22 hx hb hB hown (hB _ m_883) hK hP d_M_areColumnsRight_113 ?_
                        refine lv_icmp_ge (tgt := 154) hx hb d_M_areColumnsRight_116 (by decide) (fun hc => ?_) (fun hc => ?_)
                        · replace h := it_t h hc
                          refine lv_iconst (v := (0 : Int32)) hx hb d_M_areColumnsRight_154 (by decide) ?_
                          have L156 : ∀ (n : Nat) (σ : St) (x1 : Int32) (x2 : Int32) (H : Heap) (locs : List Loc) (ls : Array Slot), va_P D vCl (wM g ca a σ ++ tl) H → va_D A (wM g ca a σ ++ tl) → va_S A s.heap H locs → lv_has ls 3 [(0, .ref (a 0)), (1, .int x1), (2, .int x2)] → f_M_areColumnsRight_156 N n σ x1 x2 = some (r, σ') → W p l e R s m args below meth c H locs 0 0 (MQ below (qb_QI D vCl (tyM ca) (wM g ca a σ' ++ tl) A r) args s 0 0 A) (F0 m 156 ls []) := by
                            intro n
                            induction n with
                            | zero => intro σ x1 x2 H locs ls hP hD hS hl h; cases h
                            | succ n ih156 =>
                                intro σ x1 x2 H locs ls hP hD hS hl h
                                obtain ⟨K156, eK156⟩ : ∃ K, K = f_M_areColumnsRight_156 N n := ⟨_, rfl⟩
                                rw [← eK156] at ih156
                                replace h : f_M_areColumnsRight_156_b N K156 σ x1 x2 = some (r, σ') := by rw [eK156]; exact h
                                unfold f_M_areColumnsRight_156_b at h
                                refine lv_iload_n hx hb d_M_areColumnsRight_156 rfl (lv_at hl 2 rfl) ?_
                                refine lv_aload_n hx hb d_M_areColumnsRight_157 rfl (lv_at hl 0 rfl) ?_
                                refine Mg_0_24 hx hb hB hown (hB _ m_885) hK hP d_M_areColumnsRight_158 ?_
                                refine lv_icmp_ge (tgt := 199) hx hb d_M_areColumnsRight_161 (by decide) (fun hc => ?_) (fun hc => ?_)
                                · replace h := it_t h hc
                                  refine lv_iload_n hx hb d_M_areColumnsRight_199 rfl (lv_at hl 1 rfl) ?_
                                  obtain ⟨hi, h⟩ := ckt_some h
                                  exact rf_Z (w := (fun z => wM g ca a z ++ tl)) h hx hb hr hlk hK hP hD hS hi.1 d_M_areColumnsRight_200
                                · replace h := it_f h hc
                                  refine lv_iload_n hx hb d_M_areColumnsRight_164 rfl (lv_at hl 1 rfl) ?_
                                  refine lv_if_eq (tgt := 191) hx hb d_M_areColumnsRight_165 (by decide) (fun hc => ?_) (fun hc => ?_)
                                  · replace h := it_t h hc
                                    refine lv_iconst (v := (0 : Int32)) hx hb d_M_areColumnsRight_191 (by decide) ?_
                                    refine lv_istore_n (lv' := [(1, .int (0 : Int32)), (0, .ref (a 0)), (2, .int x2)]) hx hb d_M_areColumnsRight_192 rfl hl (by decide) rfl (fun ls hl => ?_)
                                    refine lv_iinc (v := (x2 + 1)) (lv' := [(2, .int (x2 + 1)), (1, .int (0 : Int32)), (0, .ref (a 0))]) hx hb d_M_areColumnsRight_193 hl (k := 2) rfl rfl (by decide) rfl (fun ls hl => ?_)
                                    refine lv_goto (tgt := 156) hx hb d_M_areColumnsRight_196 (by decide) ?_
                                    exact ih156 σ (0 : Int32) (x2 + 1) H locs ls hP hD hS (lv_sub hl [2, 1, 0] rfl) h
                                  · replace h := it_f h hc
                                    refine lv_aload_n hx hb d_M_areColumnsRight_168 rfl (lv_at hl 0 rfl) ?_
                                    refine lv_aload_n hx hb d_M_areColumnsRight_169 rfl (lv_at hl 0 rfl) ?_
                                    refine Mg_0_25 hx hb hB hown (hB _ m_886) hK hP d_M_areColumnsRight_170 ?_
                                    refine lv_iload_n hx hb d_M_areColumnsRight_173 rfl (lv_at hl 2 rfl) ?_
                                    obtain ⟨hi, h⟩ := ckb_some h
                                    refine Ma_18 hx hb hK hP hi d_M_areColumnsRight_174 ?_
                                    refine lv_aload_n hx hb d_M_areColumnsRight_175 rfl (lv_at hl 0 rfl) ?_
                                    refine Mg_0_16 hx hb hB hown (hB _ m_877) hK hP d_M_areColumnsRight_176 ?_
                                    refine lv_iconst (v := (1 : Int32)) hx hb d_M_areColumnsRight_179 (by decide) ?_
                                    refine lv_isub hx hb d_M_areColumnsRight_180 ?_
                                    obtain ⟨r11, s12, hr11, h⟩ := bd_some h
                                    refine go_VI (rest := []) ⟨hx, hb, hml, hown, hB⟩ nwM_ok (c_M_hasColumns l D ca g a tl N σ s12 (ga σ 15 (x2).toNatClampNeg) ((gi σ 3) - (1 : Int32)) r11 hr11) (cwx_V hB m_1122 kw_M_hasColumns ⟨by rw [hR]; decide, by rw [hR]; decide⟩ rfl rfl) (va_recv hK hP (ci := 1) (q0 := 0) rfl rfl) hN hK hP hD hS hA rfl hl.1 rfl (Nat.le_of_ble_eq_true rfl) d_M_areColumnsRight_181 ⟨by rw [hR]; exact Nat.le_of_ble_eq_true rfl, by rw [hR]; exact Nat.le_of_ble_eq_true rfl⟩ (fun H locs hP hD hS => ?_)
                                    refine lv_if_eq (tgt := 191) hx hb d_M_areColumnsRight_184 (by decide) (fun hc => ?_) (fun hc => ?_)
                                    · replace h := it_t h hc
                                      refine lv_iconst (v := (0 : Int32)) hx hb d_M_areColumnsRight_191 (by decide) ?_
                                      refine lv_istore_n (lv' := [(1, .int (0 : Int32)), (0, .ref (a 0)), (2, .int x2)]) hx hb d_M_areColumnsRight_192 rfl hl (by decide) rfl (fun ls hl => ?_)
                                      refine lv_iinc (v := (x2 + 1)) (lv' := [(2, .int (x2 + 1)), (1, .int (0 : Int32)), (0, .ref (a 0))]) hx hb d_M_areColumnsRight_193 hl (k := 2) rfl rfl (by decide) rfl (fun ls hl => ?_)
                                      refine lv_goto (tgt := 156) hx hb d_M_areColumnsRight_196 (by decide) ?_
                                      exact ih156 s12 (0 : Int32) (x2 + 1) H locs ls hP hD hS (lv_sub hl [2, 1, 0] rfl) h
                                    · replace h := it_f h hc
                                      refine lv_iconst (v := (1 : Int32)) hx hb d_M_areColumnsRight_187 (by decide) ?_
                                      refine lv_goto (tgt := 192) hx hb d_M_areColumnsRight_188 (by decide) ?_
                                      refine lv_istore_n (lv' := [(1, .int (1 : Int32)), (0, .ref (a 0)), (2, .int x2)]) hx hb d_M_areColumnsRight_192 rfl hl (by decide) rfl (fun ls hl => ?_)
                                      refine lv_iinc (v := (x2 + 1)) (lv' := [(2, .int (x2 + 1)), (1, .int (1 : Int32)), (0, .ref (a 0))]) hx hb d_M_areColumnsRight_193 hl (k := 2) rfl rfl (by decide) rfl (fun ls hl => ?_)
                                      refine lv_goto (tgt := 156) hx hb d_M_areColumnsRight_196 (by decide) ?_
                                      exact ih156 s12 (1 : Int32) (x2 + 1) H locs ls hP hD hS (lv_sub hl [2, 1, 0] rfl) h
                          refine lv_istore_n (lv' := [(2, .int (0 : Int32)), (0, .ref (a 0)), (1, .int x1)]) hx hb d_M_areColumnsRight_155 rfl hl (by decide) rfl (fun ls hl => ?_)
                          exact L156 N σ x1 (0 : Int32) H locs ls hP hD hS (lv_sub hl [1, 2, 0] rfl) h
                        · replace h := it_f h hc
                          refine lv_iload_n hx hb d_M_areColumnsRight_119 rfl (lv_at hl 1 rfl) ?_
                          refine lv_if_eq (tgt := 146) hx hb d_M_areColumnsRight_120 (by decide) (fun hc => ?_) (fun hc => ?_)
                          · replace h := it_t h hc
                            refine lv_iconst (v := (0 : Int32)) hx hb d_M_areColumnsRight_146 (by decide) ?_
                            refine lv_istore_n (lv' := [(1, .int (0 : Int32)), (0, .ref (a 0)), (2, .int x2)]) hx hb d_M_areColumnsRight_147 rfl hl (by decide) rfl (fun ls hl => ?_)
                            refine lv_iinc (v := (x2 + 1)) (lv' := [(2, .int (x2 + 1)), (1, .int (0 : Int32)), (0, .ref (a 0))]) hx hb d_M_areColumnsRight_148 hl (k := 2) rfl rfl (by decide) rfl (fun ls hl => ?_)
                            refine lv_goto (tgt := 111) hx hb d_M_areColumnsRight_151 (by decide) ?_
                            exact ih111 σ (0 : Int32) (x2 + 1) H locs ls hP hD hS (lv_sub hl [2, 1, 0] rfl) h
                          · replace h := it_f h hc
                            refine lv_aload_n hx hb d_M_areColumnsRight_123 rfl (lv_at hl 0 rfl) ?_
                            refine lv_aload_n hx hb d_M_areColumnsRight_124 rfl (lv_at hl 0 rfl) ?_
                            refine Mg_0_23 hx hb hB hown (hB _ m_884) hK hP d_M_areColumnsRight_125 ?_
                            refine lv_iload_n hx hb d_M_areColumnsRight_128 rfl (lv_at hl 2 rfl) ?_
                            obtain ⟨hi, h⟩ := ckb_some h
                            refine Ma_17 hx hb hK hP hi d_M_areColumnsRight_129 ?_
                            refine lv_aload_n hx hb d_M_areColumnsRight_130 rfl (lv_at hl 0 rfl) ?_
                            refine Mg_0_16 hx hb hB hown (hB _ m_877) hK hP d_M_areColumnsRight_131 ?_
                            refine lv_iconst (v := (1 : Int32)) hx hb d_M_areColumnsRight_134 (by decide) ?_
                            refine lv_isub hx hb d_M_areColumnsRight_135 ?_
                            obtain ⟨r13, s14, hr13, h⟩ := bd_some h
                            refine go_VI (rest := []) ⟨hx, hb, hml, hown, hB⟩ nwM_ok (c_M_hasColumns l D ca g a tl N σ s14 (ga σ 14 (x2).toNatClampNeg) ((gi σ 3) - (1 : Int32)) r13 hr13) (cwx_V hB m_1122 kw_M_hasColumns ⟨by rw [hR]; decide, by rw [hR]; decide⟩ rfl rfl) (va_recv hK hP (ci := 1) (q0 := 0) rfl rfl) hN hK hP hD hS hA rfl hl.1 rfl (Nat.le_of_ble_eq_true rfl) d_M_areColumnsRight_136 ⟨by rw [hR]; exact Nat.le_of_ble_eq_true rfl, by rw [hR]; exact Nat.le_of_ble_eq_true rfl⟩ (fun H locs hP hD hS => ?_)
                            refine lv_if_eq (tgt := 146) hx hb d_M_areColumnsRight_139 (by decide) (fun hc => ?_) (fun hc => ?_)
                            · replace h := it_t h hc
                              refine lv_iconst (v := (0 : Int32)) hx hb d_M_areColumnsRight_146 (by decide) ?_
                              refine lv_istore_n (lv' := [(1, .int (0 : Int32)), (0, .ref (a 0)), (2, .int x2)]) hx hb d_M_areColumnsRight_147 rfl hl (by decide) rfl (fun ls hl => ?_)
                              refine lv_iinc (v := (x2 + 1)) (lv' := [(2, .int (x2 + 1)), (1, .int (0 : Int32)), (0, .ref (a 0))]) hx hb d_M_areColumnsRight_148 hl (k := 2) rfl rfl (by decide) rfl (fun ls hl => ?_)
                              refine lv_goto (tgt := 111) hx hb d_M_areColumnsRight_151 (by decide) ?_
                              exact ih111 s14 (0 : Int32) (x2 + 1) H locs ls hP hD hS (lv_sub hl [2, 1, 0] rfl) h
                            · replace h := it_f h hc
                              refine lv_iconst (v := (1 : Int32)) hx hb d_M_areColumnsRight_142 (by decide) ?_
                              refine lv_goto (tgt := 147) hx hb d_M_areColumnsRight_143 (by decide) ?_
                              refine lv_istore_n (lv' := [(1, .int (1 : Int32)), (0, .ref (a 0)), (2, .int x2)]) hx hb d_M_areColumnsRight_147 rfl hl (by decide) rfl (fun ls hl => ?_)
                              refine lv_iinc (v := (x2 + 1)) (lv' := [(2, .int (x2 + 1)), (1, .int (1 : Int32)), (0, .ref (a 0))]) hx hb d_M_areColumnsRight_148 hl (k := 2) rfl rfl (by decide) rfl (fun ls hl => ?_)
                              refine lv_goto (tgt := 111) hx hb d_M_areColumnsRight_151 (by decide) ?_
                              exact ih111 s14 (1 : Int32) (x2 + 1) H locs ls hP hD hS (lv_sub hl [2, 1, 0] rfl) h
                  refine lv_istore_n (lv' := [(2, .int (0 : Int32)), (1, .int (0 : Int32)), (0, .ref (a 0))]) hx hb d_M_areColumnsRight_110 rfl hl (by decide) rfl (fun ls hl => ?_)
                  exact L111 N s10 (0 : Int32) (0 : Int32) H locs ls hP hD hS (lv_sub hl [2, 1, 0] rfl) h
                · replace h := it_f h hc
                  refine lv_iconst (v := (1 : Int32)) hx hb d_M_areColumnsRight_103 (by decide) ?_
                  refine lv_goto (tgt := 108) hx hb d_M_areColumnsRight_104 (by decide) ?_
                  refine lv_istore_n (lv' := [(1, .int (1 : Int32)), (0, .ref (a 0))]) hx hb d_M_areColumnsRight_108 rfl hl (by decide) rfl (fun ls hl => ?_)
                  refine lv_iconst (v := (0 : Int32)) hx hb d_M_areColumnsRight_109 (by decide) ?_
                  have L111 : ∀ (n : Nat) (σ : St) (x1 : Int32) (x2 : Int32) (H : Heap) (locs : List Loc) (ls : Array Slot), va_P D vCl (wM g ca a σ ++ tl) H → va_D A (wM g ca a σ ++ tl) → va_S A s.heap H locs → lv_has ls 3 [(0, .ref (a 0)), (1, .int x1), (2, .int x2)] → f_M_areColumnsRight_111 N n σ x1 x2 = some (r, σ') → W p l e R s m args below meth c H locs 0 0 (MQ below (qb_QI D vCl (tyM ca) (wM g ca a σ' ++ tl) A r) args s 0 0 A) (F0 m 111 ls []) := by
                    intro n
                    induction n with
                    | zero => intro σ x1 x2 H locs ls hP hD hS hl h; cases h
                    | succ n ih111 =>
                        intro σ x1 x2 H locs ls hP hD hS hl h
                        obtain ⟨K111, eK111⟩ : ∃ K, K = f_M_areColumnsRight_111 N n := ⟨_, rfl⟩
                        rw [← eK111] at ih111
                        replace h : f_M_areColumnsRight_111_b N K111 σ x1 x2 = some (r, σ') := by rw [eK111]; exact h
                        unfold f_M_areColumnsRight_111_b at h
                        refine lv_iload_n hx hb d_M_areColumnsRight_111 rfl (lv_at hl 2 rfl) ?_
                        refine lv_aload_n hx hb d_M_areColumnsRight_112 rfl (lv_at hl 0 rfl) ?_
                        refine Mg_0_22 hx hb hB hown (hB _ m_883) hK hP d_M_areColumnsRight_113 ?_
                        refine lv_icmp_ge (tgt := 154) hx hb d_M_areColumnsRight_116 (by decide) (fun hc => ?_) (fun hc => ?_)
                        · replace h := it_t h hc
                          refine lv_iconst (v := (0 : Int32)) hx hb d_M_areColumnsRight_154 (by decide) ?_
                          have L156 : ∀ (n : Nat) (σ : St) (x1 : Int32) (x2 : Int32) (H : Heap) (locs : List Loc) (ls : Array Slot), va_P D vCl (wM g ca a σ ++ tl) H → va_D A (wM g ca a σ ++ tl) → va_S A s.heap H locs → lv_has ls 3 [(0, .ref (a 0)), (1, .int x1), (2, .int x2)] → f_M_areColumnsRight_156 N n σ x1 x2 = some (r, σ') → W p l e R s m args below meth c H locs 0 0 (MQ below (qb_QI D vCl (tyM ca) (wM g ca a σ' ++ tl) A r) args s 0 0 A) (F0 m 156 ls []) := by
                            intro n
                            induction n with
                            | zero => intro σ x1 x2 H locs ls hP hD hS hl h; cases h
                            | succ n ih156 =>
                                intro σ x1 x2 H locs ls hP hD hS hl h
                                obtain ⟨K156, eK156⟩ : ∃ K, K = f_M_areColumnsRight_156 N n := ⟨_, rfl⟩
                                rw [← eK156] at ih156
                                replace h : f_M_areColumnsRight_156_b N K156 σ x1 x2 = some (r, σ') := by rw [eK156]; exact h
                                unfold f_M_areColumnsRight_156_b at h
                                refine lv_iload_n hx hb d_M_areColumnsRight_156 rfl (lv_at hl 2 rfl) ?_
                                refine lv_aload_n hx hb d_M_areColumnsRight_157 rfl (lv_at hl 0 rfl) ?_
                                refine Mg_0_24 hx hb hB hown (hB _ m_885) hK hP d_M_areColumnsRight_158 ?_
                                refine lv_icmp_ge (tgt := 199) hx hb d_M_areColumnsRight_161 (by decide) (fun hc => ?_) (fun hc => ?_)
                                · replace h := it_t h hc
                                  refine lv_iload_n hx hb d_M_areColumnsRight_199 rfl (lv_at hl 1 rfl) ?_
                                  obtain ⟨hi, h⟩ := ckt_some h
                                  exact rf_Z (w := (fun z => wM g ca a z ++ tl)) h hx hb hr hlk hK hP hD hS hi.1 d_M_areColumnsRight_200
                                · replace h := it_f h hc
                                  refine lv_iload_n hx hb d_M_areColumnsRight_164 rfl (lv_at hl 1 rfl) ?_
                                  refine lv_if_eq (tgt := 191) hx hb d_M_areColumnsRight_165 (by decide) (fun hc => ?_) (fun hc => ?_)
                                  · replace h := it_t h hc
                                    refine lv_iconst (v := (0 : Int32)) hx hb d_M_areColumnsRight_191 (by decide) ?_
                                    refine lv_istore_n (lv' := [(1, .int (0 : Int32)), (0, .ref (a 0)), (2, .int x2)]) hx hb d_M_areColumnsRight_192 rfl hl (by decide) rfl (fun ls hl => ?_)
                                    refine lv_iinc (v := (x2 + 1)) (lv' := [(2, .int (x2 + 1)), (1, .int (0 : Int32)), (0, .ref (a 0))]) hx hb d_M_areColumnsRight_193 hl (k := 2) rfl rfl (by decide) rfl (fun ls hl => ?_)
                                    refine lv_goto (tgt := 156) hx hb d_M_areColumnsRight_196 (by decide) ?_
                                    exact ih156 σ (0 : Int32) (x2 + 1) H locs ls hP hD hS (lv_sub hl [2, 1, 0] rfl) h
                                  · replace h := it_f h hc
                                    refine lv_aload_n hx hb d_M_areColumnsRight_168 rfl (lv_at hl 0 rfl) ?_
                                    refine lv_aload_n hx hb d_M_areColumnsRight_169 rfl (lv_at hl 0 rfl) ?_
                                    refine Mg_0_25 hx hb hB hown (hB _ m_886) hK hP d_M_areColumnsRight_170 ?_
                                    refine lv_iload_n hx hb d_M_areColumnsRight_173 rfl (lv_at hl 2 rfl) ?_
                                    obtain ⟨hi, h⟩ := ckb_some h
                                    refine Ma_18 hx hb hK hP hi d_M_areColumnsRight_174 ?_
                                    refine lv_aload_n hx hb d_M_areColumnsRight_175 rfl (lv_at hl 0 rfl) ?_
                                    refine Mg_0_16 hx hb hB hown (hB _ m_877) hK hP d_M_areColumnsRight_176 ?_
                                    refine lv_iconst (v := (1 : Int32)) hx hb d_M_areColumnsRight_179 (by decide) ?_
                                    refine lv_isub hx hb d_M_areColumnsRight_180 ?_
                                    obtain ⟨r15, s16, hr15, h⟩ := bd_some h
                                    refine go_VI (rest := []) ⟨hx, hb, hml, hown, hB⟩ nwM_ok (c_M_hasColumns l D ca g a tl N σ s16 (ga σ 15 (x2).toNatClampNeg) ((gi σ 3) - (1 : Int32)) r15 hr15) (cwx_V hB m_1122 kw_M_hasColumns ⟨by rw [hR]; decide, by rw [hR]; decide⟩ rfl rfl) (va_recv hK hP (ci := 1) (q0 := 0) rfl rfl) hN hK hP hD hS hA rfl hl.1 rfl (Nat.le_of_ble_eq_true rfl) d_M_areColumnsRight_181 ⟨by rw [hR]; exact Nat.le_of_ble_eq_true rfl, by rw [hR]; exact Nat.le_of_ble_eq_true rfl⟩ (fun H locs hP hD hS => ?_)
                                    refine lv_if_eq (tgt := 191) hx hb d_M_areColumnsRight_184 (by decide) (fun hc => ?_) (fun hc => ?_)
                                    · replace h := it_t h hc
                                      refine lv_iconst (v := (0 : Int32)) hx hb d_M_areColumnsRight_191 (by decide) ?_
                                      refine lv_istore_n (lv' := [(1, .int (0 : Int32)), (0, .ref (a 0)), (2, .int x2)]) hx hb d_M_areColumnsRight_192 rfl hl (by decide) rfl (fun ls hl => ?_)
                                      refine lv_iinc (v := (x2 + 1)) (lv' := [(2, .int (x2 + 1)), (1, .int (0 : Int32)), (0, .ref (a 0))]) hx hb d_M_areColumnsRight_193 hl (k := 2) rfl rfl (by decide) rfl (fun ls hl => ?_)
                                      refine lv_goto (tgt := 156) hx hb d_M_areColumnsRight_196 (by decide) ?_
                                      exact ih156 s16 (0 : Int32) (x2 + 1) H locs ls hP hD hS (lv_sub hl [2, 1, 0] rfl) h
                                    · replace h := it_f h hc
                                      refine lv_iconst (v := (1 : Int32)) hx hb d_M_areColumnsRight_187 (by decide) ?_
                                      refine lv_goto (tgt := 192) hx hb d_M_areColumnsRight_188 (by decide) ?_
                                      refine lv_istore_n (lv' := [(1, .int (1 : Int32)), (0, .ref (a 0)), (2, .int x2)]) hx hb d_M_areColumnsRight_192 rfl hl (by decide) rfl (fun ls hl => ?_)
                                      refine lv_iinc (v := (x2 + 1)) (lv' := [(2, .int (x2 + 1)), (1, .int (1 : Int32)), (0, .ref (a 0))]) hx hb d_M_areColumnsRight_193 hl (k := 2) rfl rfl (by decide) rfl (fun ls hl => ?_)
                                      refine lv_goto (tgt := 156) hx hb d_M_areColumnsRight_196 (by decide) ?_
                                      exact ih156 s16 (1 : Int32) (x2 + 1) H locs ls hP hD hS (lv_sub hl [2, 1, 0] rfl) h
                          refine lv_istore_n (lv' := [(2, .int (0 : Int32)), (0, .ref (a 0)), (1, .int x1)]) hx hb d_M_areColumnsRight_155 rfl hl (by decide) rfl (fun ls hl => ?_)
                          exact L156 N σ x1 (0 : Int32) H locs ls hP hD hS (lv_sub hl [1, 2, 0] rfl) h
                        · replace h := it_f h hc
                          refine lv_iload_n hx hb d_M_areColumnsRight_119 rfl (lv_at hl 1 rfl) ?_
                          refine lv_if_eq (tgt := 146) hx hb d_M_areColumnsRight_120 (by decide) (fun hc => ?_) (fun hc => ?_)
                          · replace h := it_t h hc
                            refine lv_iconst (v := (0 : Int32)) hx hb d_M_areColumnsRight_146 (by decide) ?_
                            refine lv_istore_n (lv' := [(1, .int (0 : Int32)), (0, .ref (a 0)), (2, .int x2)]) hx hb d_M_areColumnsRight_147 rfl hl (by decide) rfl (fun ls hl => ?_)
                            refine lv_iinc (v := (x2 + 1)) (lv' := [(2, .int (x2 + 1)), (1, .int (0 : Int32)), (0, .ref (a 0))]) hx hb d_M_areColumnsRight_148 hl (k := 2) rfl rfl (by decide) rfl (fun ls hl => ?_)
                            refine lv_goto (tgt := 111) hx hb d_M_areColumnsRight_151 (by decide) ?_
                            exact ih111 σ (0 : Int32) (x2 + 1) H locs ls hP hD hS (lv_sub hl [2, 1, 0] rfl) h
                          · replace h := it_f h hc
                            refine lv_aload_n hx hb d_M_areColumnsRight_123 rfl (lv_at hl 0 rfl) ?_
                            refine lv_aload_n hx hb d_M_areColumnsRight_124 rfl (lv_at hl 0 rfl) ?_
                            refine Mg_0_23 hx hb hB hown (hB _ m_884) hK hP d_M_areColumnsRight_125 ?_
                            refine lv_iload_n hx hb d_M_areColumnsRight_128 rfl (lv_at hl 2 rfl) ?_
                            obtain ⟨hi, h⟩ := ckb_some h
                            refine Ma_17 hx hb hK hP hi d_M_areColumnsRight_129 ?_
                            refine lv_aload_n hx hb d_M_areColumnsRight_130 rfl (lv_at hl 0 rfl) ?_
                            refine Mg_0_16 hx hb hB hown (hB _ m_877) hK hP d_M_areColumnsRight_131 ?_
                            refine lv_iconst (v := (1 : Int32)) hx hb d_M_areColumnsRight_134 (by decide) ?_
                            refine lv_isub hx hb d_M_areColumnsRight_135 ?_
                            obtain ⟨r17, s18, hr17, h⟩ := bd_some h
                            refine go_VI (rest := []) ⟨hx, hb, hml, hown, hB⟩ nwM_ok (c_M_hasColumns l D ca g a tl N σ s18 (ga σ 14 (x2).toNatClampNeg) ((gi σ 3) - (1 : Int32)) r17 hr17) (cwx_V hB m_1122 kw_M_hasColumns ⟨by rw [hR]; decide, by rw [hR]; decide⟩ rfl rfl) (va_recv hK hP (ci := 1) (q0 := 0) rfl rfl) hN hK hP hD hS hA rfl hl.1 rfl (Nat.le_of_ble_eq_true rfl) d_M_areColumnsRight_136 ⟨by rw [hR]; exact Nat.le_of_ble_eq_true rfl, by rw [hR]; exact Nat.le_of_ble_eq_true rfl⟩ (fun H locs hP hD hS => ?_)
                            refine lv_if_eq (tgt := 146) hx hb d_M_areColumnsRight_139 (by decide) (fun hc => ?_) (fun hc => ?_)
                            · replace h := it_t h hc
                              refine lv_iconst (v := (0 : Int32)) hx hb d_M_areColumnsRight_146 (by decide) ?_
                              refine lv_istore_n (lv' := [(1, .int (0 : Int32)), (0, .ref (a 0)), (2, .int x2)]) hx hb d_M_areColumnsRight_147 rfl hl (by decide) rfl (fun ls hl => ?_)
                              refine lv_iinc (v := (x2 + 1)) (lv' := [(2, .int (x2 + 1)), (1, .int (0 : Int32)), (0, .ref (a 0))]) hx hb d_M_areColumnsRight_148 hl (k := 2) rfl rfl (by decide) rfl (fun ls hl => ?_)
                              refine lv_goto (tgt := 111) hx hb d_M_areColumnsRight_151 (by decide) ?_
                              exact ih111 s18 (0 : Int32) (x2 + 1) H locs ls hP hD hS (lv_sub hl [2, 1, 0] rfl) h
                            · replace h := it_f h hc
                              refine lv_iconst (v := (1 : Int32)) hx hb d_M_areColumnsRight_142 (by decide) ?_
                              refine lv_goto (tgt := 147) hx hb d_M_areColumnsRight_143 (by decide) ?_
                              refine lv_istore_n (lv' := [(1, .int (1 : Int32)), (0, .ref (a 0)), (2, .int x2)]) hx hb d_M_areColumnsRight_147 rfl hl (by decide) rfl (fun ls hl => ?_)
                              refine lv_iinc (v := (x2 + 1)) (lv' := [(2, .int (x2 + 1)), (1, .int (1 : Int32)), (0, .ref (a 0))]) hx hb d_M_areColumnsRight_148 hl (k := 2) rfl rfl (by decide) rfl (fun ls hl => ?_)
                              refine lv_goto (tgt := 111) hx hb d_M_areColumnsRight_151 (by decide) ?_
                              exact ih111 s18 (1 : Int32) (x2 + 1) H locs ls hP hD hS (lv_sub hl [2, 1, 0] rfl) h
                  refine lv_istore_n (lv' := [(2, .int (0 : Int32)), (1, .int (1 : Int32)), (0, .ref (a 0))]) hx hb d_M_areColumnsRight_110 rfl hl (by decide) rfl (fun ls hl => ?_)
                  exact L111 N s10 (1 : Int32) (0 : Int32) H locs ls hP hD hS (lv_sub hl [2, 1, 0] rfl) h
            refine lv_if_lt (tgt := 79) hx hb d_M_areColumnsRight_59 (by decide) (fun hc => ?_) (fun hc => ?_)
            · replace h := it_t h hc
              exact L79 σ H locs ls hP hD hS (lv_sub hl [0] rfl) h
            · replace h := it_f h hc
              refine lv_aload_n hx hb d_M_areColumnsRight_62 rfl (lv_at hl 0 rfl) ?_
              refine lv_aload_n hx hb d_M_areColumnsRight_63 rfl (lv_at hl 0 rfl) ?_
              refine Mg_0_20 hx hb hB hown (hB _ m_881) hK hP d_M_areColumnsRight_64 ?_
              refine lv_aload_n hx hb d_M_areColumnsRight_67 rfl (lv_at hl 0 rfl) ?_
              refine Mg_0_16 hx hb hB hown (hB _ m_877) hK hP d_M_areColumnsRight_68 ?_
              refine lv_iconst (v := (1 : Int32)) hx hb d_M_areColumnsRight_71 (by decide) ?_
              refine lv_isub hx hb d_M_areColumnsRight_72 ?_
              obtain ⟨r19, s20, hr19, h⟩ := bd_some h
              refine go_VI (rest := []) ⟨hx, hb, hml, hown, hB⟩ nwM_ok (c_M_hasColumns l D ca g a tl N σ s20 (gi σ 4) ((gi σ 3) - (1 : Int32)) r19 hr19) (cwx_V hB m_1122 kw_M_hasColumns ⟨by rw [hR]; decide, by rw [hR]; decide⟩ rfl rfl) (va_recv hK hP (ci := 1) (q0 := 0) rfl rfl) hN hK hP hD hS hA rfl hl.1 rfl (Nat.le_of_ble_eq_true rfl) d_M_areColumnsRight_73 ⟨by rw [hR]; exact Nat.le_of_ble_eq_true rfl, by rw [hR]; exact Nat.le_of_ble_eq_true rfl⟩ (fun H locs hP hD hS => ?_)
              refine lv_if_eq (tgt := 107) hx hb d_M_areColumnsRight_76 (by decide) (fun hc => ?_) (fun hc => ?_)
              · replace h := it_t h hc
                refine lv_iconst (v := (0 : Int32)) hx hb d_M_areColumnsRight_107 (by decide) ?_
                refine lv_istore_n (lv' := [(1, .int (0 : Int32)), (0, .ref (a 0)), (2, .int x2)]) hx hb d_M_areColumnsRight_108 rfl hl (by decide) rfl (fun ls hl => ?_)
                refine lv_iconst (v := (0 : Int32)) hx hb d_M_areColumnsRight_109 (by decide) ?_
                have L111 : ∀ (n : Nat) (σ : St) (x1 : Int32) (x2 : Int32) (H : Heap) (locs : List Loc) (ls : Array Slot), va_P D vCl (wM g ca a σ ++ tl) H → va_D A (wM g ca a σ ++ tl) → va_S A s.heap H locs → lv_has ls 3 [(0, .ref (a 0)), (1, .int x1), (2, .int x2)] → f_M_areColumnsRight_111 N n σ x1 x2 = some (r, σ') → W p l e R s m args below meth c H locs 0 0 (MQ below (qb_QI D vCl (tyM ca) (wM g ca a σ' ++ tl) A r) args s 0 0 A) (F0 m 111 ls []) := by
                  intro n
                  induction n with
                  | zero => intro σ x1 x2 H locs ls hP hD hS hl h; cases h
                  | succ n ih111 =>
                      intro σ x1 x2 H locs ls hP hD hS hl h
                      obtain ⟨K111, eK111⟩ : ∃ K, K = f_M_areColumnsRight_111 N n := ⟨_, rfl⟩
                      rw [← eK111] at ih111
                      replace h : f_M_areColumnsRight_111_b N K111 σ x1 x2 = some (r, σ') := by rw [eK111]; exact h
                      unfold f_M_areColumnsRight_111_b at h
                      refine lv_iload_n hx hb d_M_areColumnsRight_111 rfl (lv_at hl 2 rfl) ?_
                      refine lv_aload_n hx hb d_M_areColumnsRight_112 rfl (lv_at hl 0 rfl) ?_
                      refine Mg_0_22 hx hb hB hown (hB _ m_883) hK hP d_M_areColumnsRight_113 ?_
                      refine lv_icmp_ge (tgt := 154) hx hb d_M_areColumnsRight_116 (by decide) (fun hc => ?_) (fun hc => ?_)
                      · replace h := it_t h hc
                        refine lv_iconst (v := (0 : Int32)) hx hb d_M_areColumnsRight_154 (by decide) ?_
                        have L156 : ∀ (n : Nat) (σ : St) (x1 : Int32) (x2 : Int32) (H : Heap) (locs : List Loc) (ls : Array Slot), va_P D vCl (wM g ca a σ ++ tl) H → va_D A (wM g ca a σ ++ tl) → va_S A s.heap H locs → lv_has ls 3 [(0, .ref (a 0)), (1, .int x1), (2, .int x2)] → f_M_areColumnsRight_156 N n σ x1 x2 = some (r, σ') → W p l e R s m args below meth c H locs 0 0 (MQ below (qb_QI D vCl (tyM ca) (wM g ca a σ' ++ tl) A r) args s 0 0 A) (F0 m 156 ls []) := by
                          intro n
                          induction n with
                          | zero => intro σ x1 x2 H locs ls hP hD hS hl h; cases h
                          | succ n ih156 =>
                              intro σ x1 x2 H locs ls hP hD hS hl h
                              obtain ⟨K156, eK156⟩ : ∃ K, K = f_M_areColumnsRight_156 N n := ⟨_, rfl⟩
                              rw [← eK156] at ih156
                              replace h : f_M_areColumnsRight_156_b N K156 σ x1 x2 = some (r, σ') := by rw [eK156]; exact h
                              unfold f_M_areColumnsRight_156_b at h
                              refine lv_iload_n hx hb d_M_areColumnsRight_156 rfl (lv_at hl 2 rfl) ?_
                              refine lv_aload_n hx hb d_M_areColumnsRight_157 rfl (lv_at hl 0 rfl) ?_
                              refine Mg_0_24 hx hb hB hown (hB _ m_885) hK hP d_M_areColumnsRight_158 ?_
                              refine lv_icmp_ge (tgt := 199) hx hb d_M_areColumnsRight_161 (by decide) (fun hc => ?_) (fun hc => ?_)
                              · replace h := it_t h hc
                                refine lv_iload_n hx hb d_M_areColumnsRight_199 rfl (lv_at hl 1 rfl) ?_
                                obtain ⟨hi, h⟩ := ckt_some h
                                exact rf_Z (w := (fun z => wM g ca a z ++ tl)) h hx hb hr hlk hK hP hD hS hi.1 d_M_areColumnsRight_200
                              · replace h := it_f h hc
                                refine lv_iload_n hx hb d_M_areColumnsRight_164 rfl (lv_at hl 1 rfl) ?_
                                refine lv_if_eq (tgt := 191) hx hb d_M_areColumnsRight_165 (by decide) (fun hc => ?_) (fun hc => ?_)
                                · replace h := it_t h hc
                                  refine lv_iconst (v := (0 : Int32)) hx hb d_M_areColumnsRight_191 (by decide) ?_
                                  refine lv_istore_n (lv' := [(1, .int (0 : Int32)), (0, .ref (a 0)), (2, .int x2)]) hx hb d_M_areColumnsRight_192 rfl hl (by decide) rfl (fun ls hl => ?_)
                                  refine lv_iinc (v := (x2 + 1)) (lv' := [(2, .int (x2 + 1)), (1, .int (0 : Int32)), (0, .ref (a 0))]) hx hb d_M_areColumnsRight_193 hl (k := 2) rfl rfl (by decide) rfl (fun ls hl => ?_)
                                  refine lv_goto (tgt := 156) hx hb d_M_areColumnsRight_196 (by decide) ?_
                                  exact ih156 σ (0 : Int32) (x2 + 1) H locs ls hP hD hS (lv_sub hl [2, 1, 0] rfl) h
                                · replace h := it_f h hc
                                  refine lv_aload_n hx hb d_M_areColumnsRight_168 rfl (lv_at hl 0 rfl) ?_
                                  refine lv_aload_n hx hb d_M_areColumnsRight_169 rfl (lv_at hl 0 rfl) ?_
                                  refine Mg_0_25 hx hb hB hown (hB _ m_886) hK hP d_M_areColumnsRight_170 ?_
                                  refine lv_iload_n hx hb d_M_areColumnsRight_173 rfl (lv_at hl 2 rfl) ?_
                                  obtain ⟨hi, h⟩ := ckb_some h
                                  refine Ma_18 hx hb hK hP hi d_M_areColumnsRight_174 ?_
                                  refine lv_aload_n hx hb d_M_areColumnsRight_175 rfl (lv_at hl 0 rfl) ?_
                                  refine Mg_0_16 hx hb hB hown (hB _ m_877) hK hP d_M_areColumnsRight_176 ?_
                                  refine lv_iconst (v := (1 : Int32)) hx hb d_M_areColumnsRight_179 (by decide) ?_
                                  refine lv_isub hx hb d_M_areColumnsRight_180 ?_
                                  obtain ⟨r21, s22, hr21, h⟩ := bd_some h
                                  refine go_VI (rest := []) ⟨hx, hb, hml, hown, hB⟩ nwM_ok (c_M_hasColumns l D ca g a tl N σ s22 (ga σ 15 (x2).toNatClampNeg) ((gi σ 3) - (1 : Int32)) r21 hr21) (cwx_V hB m_1122 kw_M_hasColumns ⟨by rw [hR]; decide, by rw [hR]; decide⟩ rfl rfl) (va_recv hK hP (ci := 1) (q0 := 0) rfl rfl) hN hK hP hD hS hA rfl hl.1 rfl (Nat.le_of_ble_eq_true rfl) d_M_areColumnsRight_181 ⟨by rw [hR]; exact Nat.le_of_ble_eq_true rfl, by rw [hR]; exact Nat.le_of_ble_eq_true rfl⟩ (fun H locs hP hD hS => ?_)
                                  refine lv_if_eq (tgt := 191) hx hb d_M_areColumnsRight_184 (by decide) (fun hc => ?_) (fun hc => ?_)
                                  · replace h := it_t h hc
                                    refine lv_iconst (v := (0 : Int32)) hx hb d_M_areColumnsRight_191 (by decide) ?_
                                    refine lv_istore_n (lv' := [(1, .int (0 : Int32)), (0, .ref (a 0)), (2, .int x2)]) hx hb d_M_areColumnsRight_192 rfl hl (by decide) rfl (fun ls hl => ?_)
                                    refine lv_iinc (v := (x2 + 1)) (lv' := [(2, .int (x2 + 1)), (1, .int (0 : Int32)), (0, .ref (a 0))]) hx hb d_M_areColumnsRight_193 hl (k := 2) rfl rfl (by decide) rfl (fun ls hl => ?_)
                                    refine lv_goto (tgt := 156) hx hb d_M_areColumnsRight_196 (by decide) ?_
                                    exact ih156 s22 (0 : Int32) (x2 + 1) H locs ls hP hD hS (lv_sub hl [2, 1, 0] rfl) h
                                  · replace h := it_f h hc
                                    refine lv_iconst (v := (1 : Int32)) hx hb d_M_areColumnsRight_187 (by decide) ?_
                                    refine lv_goto (tgt := 192) hx hb d_M_areColumnsRight_188 (by decide) ?_
                                    refine lv_istore_n (lv' := [(1, .int (1 : Int32)), (0, .ref (a 0)), (2, .int x2)]) hx hb d_M_areColumnsRight_192 rfl hl (by decide) rfl (fun ls hl => ?_)
                                    refine lv_iinc (v := (x2 + 1)) (lv' := [(2, .int (x2 + 1)), (1, .int (1 : Int32)), (0, .ref (a 0))]) hx hb d_M_areColumnsRight_193 hl (k := 2) rfl rfl (by decide) rfl (fun ls hl => ?_)
                                    refine lv_goto (tgt := 156) hx hb d_M_areColumnsRight_196 (by decide) ?_
                                    exact ih156 s22 (1 : Int32) (x2 + 1) H locs ls hP hD hS (lv_sub hl [2, 1, 0] rfl) h
                        refine lv_istore_n (lv' := [(2, .int (0 : Int32)), (0, .ref (a 0)), (1, .int x1)]) hx hb d_M_areColumnsRight_155 rfl hl (by decide) rfl (fun ls hl => ?_)
                        exact L156 N σ x1 (0 : Int32) H locs ls hP hD hS (lv_sub hl [1, 2, 0] rfl) h
                      · replace h := it_f h hc
                        refine lv_iload_n hx hb d_M_areColumnsRight_119 rfl (lv_at hl 1 rfl) ?_
                        refine lv_if_eq (tgt := 146) hx hb d_M_areColumnsRight_120 (by decide) (fun hc => ?_) (fun hc => ?_)
                        · replace h := it_t h hc
                          refine lv_iconst (v := (0 : Int32)) hx hb d_M_areColumnsRight_146 (by decide) ?_
                          refine lv_istore_n (lv' := [(1, .int (0 : Int32)), (0, .ref (a 0)), (2, .int x2)]) hx hb d_M_areColumnsRight_147 rfl hl (by decide) rfl (fun ls hl => ?_)
                          refine lv_iinc (v := (x2 + 1)) (lv' := [(2, .int (x2 + 1)), (1, .int (0 : Int32)), (0, .ref (a 0))]) hx hb d_M_areColumnsRight_148 hl (k := 2) rfl rfl (by decide) rfl (fun ls hl => ?_)
                          refine lv_goto (tgt := 111) hx hb d_M_areColumnsRight_151 (by decide) ?_
                          exact ih111 σ (0 : Int32) (x2 + 1) H locs ls hP hD hS (lv_sub hl [2, 1, 0] rfl) h
                        · replace h := it_f h hc
                          refine lv_aload_n hx hb d_M_areColumnsRight_123 rfl (lv_at hl 0 rfl) ?_
                          refine lv_aload_n hx hb d_M_areColumnsRight_124 rfl (lv_at hl 0 rfl) ?_
                          refine Mg_0_23 hx hb hB hown (hB _ m_884) hK hP d_M_areColumnsRight_125 ?_
                          refine lv_iload_n hx hb d_M_areColumnsRight_128 rfl (lv_at hl 2 rfl) ?_
                          obtain ⟨hi, h⟩ := ckb_some h
                          refine Ma_17 hx hb hK hP hi d_M_areColumnsRight_129 ?_
                          refine lv_aload_n hx hb d_M_areColumnsRight_130 rfl (lv_at hl 0 rfl) ?_
                          refine Mg_0_16 hx hb hB hown (hB _ m_877) hK hP d_M_areColumnsRight_131 ?_
                          refine lv_iconst (v := (1 : Int32)) hx hb d_M_areColumnsRight_134 (by decide) ?_
                          refine lv_isub hx hb d_M_areColumnsRight_135 ?_
                          obtain ⟨r23, s24, hr23, h⟩ := bd_some h
                          refine go_VI (rest := []) ⟨hx, hb, hml, hown, hB⟩ nwM_ok (c_M_hasColumns l D ca g a tl N σ s24 (ga σ 14 (x2).toNatClampNeg) ((gi σ 3) - (1 : Int32)) r23 hr23) (cwx_V hB m_1122 kw_M_hasColumns ⟨by rw [hR]; decide, by rw [hR]; decide⟩ rfl rfl) (va_recv hK hP (ci := 1) (q0 := 0) rfl rfl) hN hK hP hD hS hA rfl hl.1 rfl (Nat.le_of_ble_eq_true rfl) d_M_areColumnsRight_136 ⟨by rw [hR]; exact Nat.le_of_ble_eq_true rfl, by rw [hR]; exact Nat.le_of_ble_eq_true rfl⟩ (fun H locs hP hD hS => ?_)
                          refine lv_if_eq (tgt := 146) hx hb d_M_areColumnsRight_139 (by decide) (fun hc => ?_) (fun hc => ?_)
                          · replace h := it_t h hc
                            refine lv_iconst (v := (0 : Int32)) hx hb d_M_areColumnsRight_146 (by decide) ?_
                            refine lv_istore_n (lv' := [(1, .int (0 : Int32)), (0, .ref (a 0)), (2, .int x2)]) hx hb d_M_areColumnsRight_147 rfl hl (by decide) rfl (fun ls hl => ?_)
                            refine lv_iinc (v := (x2 + 1)) (lv' := [(2, .int (x2 + 1)), (1, .int (0 : Int32)), (0, .ref (a 0))]) hx hb d_M_areColumnsRight_148 hl (k := 2) rfl rfl (by decide) rfl (fun ls hl => ?_)
                            refine lv_goto (tgt := 111) hx hb d_M_areColumnsRight_151 (by decide) ?_
                            exact ih111 s24 (0 : Int32) (x2 + 1) H locs ls hP hD hS (lv_sub hl [2, 1, 0] rfl) h
                          · replace h := it_f h hc
                            refine lv_iconst (v := (1 : Int32)) hx hb d_M_areColumnsRight_142 (by decide) ?_
                            refine lv_goto (tgt := 147) hx hb d_M_areColumnsRight_143 (by decide) ?_
                            refine lv_istore_n (lv' := [(1, .int (1 : Int32)), (0, .ref (a 0)), (2, .int x2)]) hx hb d_M_areColumnsRight_147 rfl hl (by decide) rfl (fun ls hl => ?_)
                            refine lv_iinc (v := (x2 + 1)) (lv' := [(2, .int (x2 + 1)), (1, .int (1 : Int32)), (0, .ref (a 0))]) hx hb d_M_areColumnsRight_148 hl (k := 2) rfl rfl (by decide) rfl (fun ls hl => ?_)
                            refine lv_goto (tgt := 111) hx hb d_M_areColumnsRight_151 (by decide) ?_
                            exact ih111 s24 (1 : Int32) (x2 + 1) H locs ls hP hD hS (lv_sub hl [2, 1, 0] rfl) h
                refine lv_istore_n (lv' := [(2, .int (0 : Int32)), (1, .int (0 : Int32)), (0, .ref (a 0))]) hx hb d_M_areColumnsRight_110 rfl hl (by decide) rfl (fun ls hl => ?_)
                exact L111 N s20 (0 : Int32) (0 : Int32) H locs ls hP hD hS (lv_sub hl [2, 1, 0] rfl) h
              · replace h := it_f h hc
                exact L79 s20 H locs ls hP hD hS (lv_sub hl [0] rfl) h
        · replace h := it_f h hc
          refine lv_iload_n hx hb d_M_areColumnsRight_12 rfl (lv_at hl 1 rfl) ?_
          refine lv_if_eq (tgt := 43) hx hb d_M_areColumnsRight_13 (by decide) (fun hc => ?_) (fun hc => ?_)
          · replace h := it_t h hc
            refine lv_iconst (v := (0 : Int32)) hx hb d_M_areColumnsRight_43 (by decide) ?_
            refine lv_istore_n (lv' := [(1, .int (0 : Int32)), (0, .ref (a 0)), (2, .int x2)]) hx hb d_M_areColumnsRight_44 rfl hl (by decide) rfl (fun ls hl => ?_)
            refine lv_iinc (v := (x2 + 1)) (lv' := [(2, .int (x2 + 1)), (1, .int (0 : Int32)), (0, .ref (a 0))]) hx hb d_M_areColumnsRight_45 hl (k := 2) rfl rfl (by decide) rfl (fun ls hl => ?_)
            refine lv_goto (tgt := 4) hx hb d_M_areColumnsRight_48 (by decide) ?_
            exact ih4 σ (0 : Int32) (x2 + 1) H locs ls hP hD hS (lv_sub hl [2, 1, 0] rfl) h
          · replace h := it_f h hc
            refine lv_aload_n hx hb d_M_areColumnsRight_16 rfl (lv_at hl 0 rfl) ?_
            refine Mg_0_18 hx hb hB hown (hB _ m_879) hK hP d_M_areColumnsRight_17 ?_
            refine lv_iload_n hx hb d_M_areColumnsRight_20 rfl (lv_at hl 2 rfl) ?_
            obtain ⟨hi, h⟩ := ckb_some h
            refine Ma_15 hx hb hK hP hi d_M_areColumnsRight_21 ?_
            refine lv_if_eq (tgt := 39) hx hb d_M_areColumnsRight_22 (by decide) (fun hc => ?_) (fun hc => ?_)
            · replace h := it_t h hc
              refine lv_iconst (v := (1 : Int32)) hx hb d_M_areColumnsRight_39 (by decide) ?_
              refine lv_goto (tgt := 44) hx hb d_M_areColumnsRight_40 (by decide) ?_
              refine lv_istore_n (lv' := [(1, .int (1 : Int32)), (0, .ref (a 0)), (2, .int x2)]) hx hb d_M_areColumnsRight_44 rfl hl (by decide) rfl (fun ls hl => ?_)
              refine lv_iinc (v := (x2 + 1)) (lv' := [(2, .int (x2 + 1)), (1, .int (1 : Int32)), (0, .ref (a 0))]) hx hb d_M_areColumnsRight_45 hl (k := 2) rfl rfl (by decide) rfl (fun ls hl => ?_)
              refine lv_goto (tgt := 4) hx hb d_M_areColumnsRight_48 (by decide) ?_
              exact ih4 σ (1 : Int32) (x2 + 1) H locs ls hP hD hS (lv_sub hl [2, 1, 0] rfl) h
            · replace h := it_f h hc
              refine lv_aload_n hx hb d_M_areColumnsRight_25 rfl (lv_at hl 0 rfl) ?_
              refine lv_aload_n hx hb d_M_areColumnsRight_26 rfl (lv_at hl 0 rfl) ?_
              refine Mg_0_19 hx hb hB hown (hB _ m_880) hK hP d_M_areColumnsRight_27 ?_
              refine lv_iload_n hx hb d_M_areColumnsRight_30 rfl (lv_at hl 2 rfl) ?_
              obtain ⟨hi, h⟩ := ckb_some h
              refine Ma_16 hx hb hK hP hi d_M_areColumnsRight_31 ?_
              refine lv_iload_n hx hb d_M_areColumnsRight_32 rfl (lv_at hl 2 rfl) ?_
              obtain ⟨r25, s26, hr25, h⟩ := bd_some h
              refine go_VI (rest := []) ⟨hx, hb, hml, hown, hB⟩ nwM_ok (c_M_hasColumns l D ca g a tl N σ s26 (ga σ 13 (x2).toNatClampNeg) x2 r25 hr25) (cwx_V hB m_1122 kw_M_hasColumns ⟨by rw [hR]; decide, by rw [hR]; decide⟩ rfl rfl) (va_recv hK hP (ci := 1) (q0 := 0) rfl rfl) hN hK hP hD hS hA rfl hl.1 rfl (Nat.le_of_ble_eq_true rfl) d_M_areColumnsRight_33 ⟨by rw [hR]; exact Nat.le_of_ble_eq_true rfl, by rw [hR]; exact Nat.le_of_ble_eq_true rfl⟩ (fun H locs hP hD hS => ?_)
              refine lv_if_eq (tgt := 43) hx hb d_M_areColumnsRight_36 (by decide) (fun hc => ?_) (fun hc => ?_)
              · replace h := it_t h hc
                refine lv_iconst (v := (0 : Int32)) hx hb d_M_areColumnsRight_43 (by decide) ?_
                refine lv_istore_n (lv' := [(1, .int (0 : Int32)), (0, .ref (a 0)), (2, .int x2)]) hx hb d_M_areColumnsRight_44 rfl hl (by decide) rfl (fun ls hl => ?_)
                refine lv_iinc (v := (x2 + 1)) (lv' := [(2, .int (x2 + 1)), (1, .int (0 : Int32)), (0, .ref (a 0))]) hx hb d_M_areColumnsRight_45 hl (k := 2) rfl rfl (by decide) rfl (fun ls hl => ?_)
                refine lv_goto (tgt := 4) hx hb d_M_areColumnsRight_48 (by decide) ?_
                exact ih4 s26 (0 : Int32) (x2 + 1) H locs ls hP hD hS (lv_sub hl [2, 1, 0] rfl) h
              · replace h := it_f h hc
                refine lv_iconst (v := (1 : Int32)) hx hb d_M_areColumnsRight_39 (by decide) ?_
                refine lv_goto (tgt := 44) hx hb d_M_areColumnsRight_40 (by decide) ?_
                refine lv_istore_n (lv' := [(1, .int (1 : Int32)), (0, .ref (a 0)), (2, .int x2)]) hx hb d_M_areColumnsRight_44 rfl hl (by decide) rfl (fun ls hl => ?_)
                refine lv_iinc (v := (x2 + 1)) (lv' := [(2, .int (x2 + 1)), (1, .int (1 : Int32)), (0, .ref (a 0))]) hx hb d_M_areColumnsRight_45 hl (k := 2) rfl rfl (by decide) rfl (fun ls hl => ?_)
                refine lv_goto (tgt := 4) hx hb d_M_areColumnsRight_48 (by decide) ?_
                exact ih4 s26 (1 : Int32) (x2 + 1) H locs ls hP hD hS (lv_sub hl [2, 1, 0] rfl) h
  refine lv_istore_n (lv' := [(2, .int (0 : Int32)), (1, .int (1 : Int32)), (0, .ref (a 0))]) hx hb d_M_areColumnsRight_3 rfl hl (by decide) rfl (fun ls hl => ?_)
  exact L4 N σ (1 : Int32) (0 : Int32) H locs ls hP hD hS (lv_sub hl [2, 1, 0] rfl) h
