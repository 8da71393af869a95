set_option maxRecDepth 100000 in
set_option maxHeartbeats 4000000 in
theorem c_M_workOut (l : Launch) (D : va_G) (ca : Nat → ClassId) (g : Bool) (a : Nat → Nat) (tl : va_W) (N : Nat) (σ σ' : St) (x1 : Int32) (h : f_M_workOut N σ x1 = some ((), σ')) : CtV l y_M_workOut ws_M_workOut rm_M_workOut 0 0 D vCl (tyM ca) nwM [.ref (a 0), .int x1] (wM g ca a σ ++ tl) (wM g ca a σ' ++ tl) := by
  refine en_V (ws' := BIG) (by decide +kernel) rfl (Nat.le_of_ble_eq_true rfl) ?_
  intro p e s m below meth c A ls R args H locs hR hx hb hr hlk hml hown hB hK hN hP hD hA hS hl
  have hl : lv_has ls 2 [(0, .ref (a 0)), (1, .int x1)] := hl
  unfold f_M_workOut at h
  refine lv_aload_n hx hb d_M_workOut_0 rfl (lv_at hl 0 rfl) ?_
  refine lv_iconst (v := (0 : Int32)) hx hb d_M_workOut_1 (by decide) ?_
  obtain ⟨s1, es1, h⟩ := nm_some h
  refine Mp_0_49 es1 hx hb hB hown (hB _ m_910) hK hP hD hS d_M_workOut_2 (fun H locs hP hD hS => ?_)
  refine lv_aload_n hx hb d_M_workOut_5 rfl (lv_at hl 0 rfl) ?_
  refine lv_iconst (v := (0 : Int32)) hx hb d_M_workOut_6 (by decide) ?_
  obtain ⟨s2, es2, h⟩ := nm_some h
  refine Mp_0_52 es2 hx hb hB hown (hB _ m_913) hK hP hD hS d_M_workOut_7 (fun H locs hP hD hS => ?_)
  refine lv_aload_n hx hb d_M_workOut_10 rfl (lv_at hl 0 rfl) ?_
  refine lv_iload_n hx hb d_M_workOut_11 rfl (lv_at hl 1 rfl) ?_
  have L15 : ∀ (n : Nat) (σ : St) (H : Heap) (locs : List Loc) (ls : Array Slot), va_P D vCl (wM g ca a σ ++ tl) H → va_D A (wM g ca a σ ++ tl) → va_S A s.heap H locs → lv_has ls 2 [(0, .ref (a 0))] → f_M_workOut_15 N n σ = some ((), σ') → W p l e R s m args below meth c H locs 0 0 (MQ below (qb_QV D vCl (tyM ca) (wM g ca a σ' ++ tl) A) args s 0 0 A) (F0 m 15 ls []) := by
    intro n
    induction n with
    | zero => intro σ H locs ls hP hD hS hl h; cases h
    | succ n ih15 =>
        intro σ H locs ls hP hD hS hl h
        obtain ⟨K15, eK15⟩ : ∃ K, K = f_M_workOut_15 N n := ⟨_, rfl⟩
        rw [← eK15] at ih15
        replace h : f_M_workOut_15_b N K15 σ = some ((), σ') := by rw [eK15]; exact h
        unfold f_M_workOut_15_b at h
        refine lv_aload_n hx hb d_M_workOut_15 rfl (lv_at hl 0 rfl) ?_
        refine Mg_0_49 hx hb hB hown (hB _ m_910) hK hP d_M_workOut_16 ?_
        refine lv_if_le (tgt := 36) hx hb d_M_workOut_19 (by decide) (fun hc => ?_) (fun hc => ?_)
        · replace h := it_t h hc
          exact rf_V (w := (fun z => wM g ca a z ++ tl)) h hx hb hr hlk hK hP hD hS d_M_workOut_36
        · replace h := it_f h hc
          refine lv_aload_n hx hb d_M_workOut_22 rfl (lv_at hl 0 rfl) ?_
          refine Mg_0_36 hx hb hB hown (hB _ m_897) hK hP d_M_workOut_23 ?_
          refine lv_if_ne (tgt := 36) hx hb d_M_workOut_26 (by decide) (fun hc => ?_) (fun hc => ?_)
          · replace h := it_f h hc
            exact rf_V (w := (fun z => wM g ca a z ++ tl)) h hx hb hr hlk hK hP hD hS d_M_workOut_36
          · replace h := it_t h hc
            refine lv_aload_n hx hb d_M_workOut_29 rfl (lv_at hl 0 rfl) ?_
            obtain ⟨r3, s4, hr3, h⟩ := bd_some h
            cases r3
            refine go_VV (rest := []) ⟨hx, hb, hml, hown, hB⟩ nwM_ok (c_M_lookOnce l D ca g a tl N σ s4 hr3) (cwx_V hB m_1170 kw_M_lookOnce ⟨by rw [hR]; decide, by rw [hR]; decide⟩ rfl rfl) (va_recv hK hP (ci := 1) (q0 := 0) rfl rfl) hN hK hP hD hS hA rfl hl.1 rfl (Nat.le_of_ble_eq_true rfl) d_M_workOut_30 ⟨by rw [hR]; exact Nat.le_of_ble_eq_true rfl, by rw [hR]; exact Nat.le_of_ble_eq_true rfl⟩ (fun H locs hP hD hS => ?_)
            refine lv_goto (tgt := 15) hx hb d_M_workOut_33 (by decide) ?_
            exact ih15 s4 H locs ls hP hD hS (lv_sub hl [0] rfl) h
  obtain ⟨r5, s6, hr5, h⟩ := bd_some h
  cases r5
  refine go_VV (rest := []) ⟨hx, hb, hml, hown, hB⟩ nwM_ok (c_M_push l D ca g a tl N s2 s6 x1 hr5) (cwx_V hB m_1126 kw_M_push ⟨by rw [hR]; decide, by rw [hR]; decide⟩ rfl rfl) (va_recv hK hP (ci := 1) (q0 := 0) rfl rfl) hN hK hP hD hS hA rfl hl.1 rfl (Nat.le_of_ble_eq_true rfl) d_M_workOut_12 ⟨by rw [hR]; exact Nat.le_of_ble_eq_true rfl, by rw [hR]; exact Nat.le_of_ble_eq_true rfl⟩ (fun H locs hP hD hS => ?_)
  exact L15 N s6 H locs ls hP hD hS (lv_sub hl [0] rfl) h
set_option maxRecDepth 100000 in
set_option maxHeartbeats 4000000 in
theorem c_M_giveRow (l : Launch) (D : va_G) (ca : Nat → ClassId) (g : Bool) (a : Nat → Nat) (tl : va_W) (N : Nat) (σ σ' : St) (h : f_M_giveRow N σ = some ((), σ')) : CtV l y_M_giveRow ws_M_giveRow rm_M_giveRow 0 0 D vCl (tyM ca) nwM [.ref (a 0)] (wM g ca a σ ++ tl) (wM g ca a σ' ++ tl) := by
  refine en_V (ws' := BIG) (by decide +kernel) rfl (Nat.le_of_ble_eq_true rfl) ?_
  intro p e s m below meth c A ls R args H locs hR hx hb hr hlk hml hown hB hK hN hP hD hA hS hl
  have hl : lv_has ls 2 [(0, .ref (a 0))] := hl
  unfold f_M_giveRow at h
  refine lv_aload_n hx hb d_M_giveRow_0 rfl (lv_at hl 0 rfl) ?_
  refine Mg_0_32 hx hb hB hown (hB _ m_893) hK hP d_M_giveRow_1 ?_
  refine lv_sipush (v := (200 : Int32)) hx hb d_M_giveRow_4 (by decide) ?_
  refine lv_icmp_ne (tgt := 17) hx hb d_M_giveRow_7 (by decide) (fun hc => ?_) (fun hc => ?_)
  · replace h := it_f h hc
    refine lv_iconst (v := (0 : Int32)) hx hb d_M_giveRow_17 (by decide) ?_
    have L19 : ∀ (n : Nat) (σ : St) (x1 : Int32) (H : Heap) (locs : List Loc) (ls : Array Slot), va_P D vCl (wM g ca a σ ++ tl) H → va_D A (wM g ca a σ ++ tl) → va_S A s.heap H locs → lv_has ls 2 [(0, .ref (a 0)), (1, .int x1)] → f_M_giveRow_19 N n σ x1 = some ((), σ') → W p l e R s m args below meth c H locs 0 0 (MQ below (qb_QV D vCl (tyM ca) (wM g ca a σ' ++ tl) A) args s 0 0 A) (F0 m 19 ls []) := by
      intro n
      induction n with
      | zero => intro σ x1 H locs ls hP hD hS hl h; cases h
      | succ n ih19 =>
          intro σ x1 H locs ls hP hD hS hl h
          obtain ⟨K19, eK19⟩ : ∃ K, K = f_M_giveRow_19 N n := ⟨_, rfl⟩
          rw [← eK19] at ih19
          replace h : f_M_giveRow_19_b N K19 σ x1 = some ((), σ') := by rw [eK19]; exact h
          unfold f_M_giveRow_19_b at h
          refine lv_iload_n hx hb d_M_giveRow_19 rfl (lv_at hl 1 rfl) ?_
          refine lv_aload_n hx hb d_M_giveRow_20 rfl (lv_at hl 0 rfl) ?_
          refine Mg_0_24 hx hb hB hown (hB _ m_885) hK hP d_M_giveRow_21 ?_
          refine lv_icmp_ge (tgt := 91) hx hb d_M_giveRow_24 (by decide) (fun hc => ?_) (fun hc => ?_)
          · replace h := it_t h hc
            refine lv_aload_n hx hb d_M_giveRow_91 rfl (lv_at hl 0 rfl) ?_
            refine lv_dup hx hb d_M_giveRow_92 rfl ?_
            refine Mg_0_32 hx hb hB hown (hB _ m_893) hK hP d_M_giveRow_93 ?_
            refine lv_iconst (v := (1 : Int32)) hx hb d_M_giveRow_96 (by decide) ?_
            refine lv_iadd hx hb d_M_giveRow_97 ?_
            obtain ⟨s1, es1, h⟩ := nm_some h
            refine Mp_0_32 es1 hx hb hB hown (hB _ m_893) hK hP hD hS d_M_giveRow_98 (fun H locs hP hD hS => ?_)
            exact rf_V (w := (fun z => wM g ca a z ++ tl)) h hx hb hr hlk hK hP hD hS d_M_giveRow_101
          · replace h := it_f h hc
            refine lv_aload_n hx hb d_M_giveRow_27 rfl (lv_at hl 0 rfl) ?_
            refine lv_aload_n hx hb d_M_giveRow_28 rfl (lv_at hl 0 rfl) ?_
            refine Mg_0_25 hx hb hB hown (hB _ m_886) hK hP d_M_giveRow_29 ?_
            refine lv_iload_n hx hb d_M_giveRow_32 rfl (lv_at hl 1 rfl) ?_
            obtain ⟨hi, h⟩ := ckb_some h
            refine Ma_18 hx hb hK hP hi d_M_giveRow_33 ?_
            obtain ⟨r2, s3, hr2, h⟩ := bd_some h
            cases r2
            refine go_VV (rest := []) ⟨hx, hb, hml, hown, hB⟩ nwM_ok (c_M_workOut l D ca g a tl N σ s3 (ga σ 15 (x1).toNatClampNeg) hr2) (cwx_V hB m_1166 kw_M_workOut ⟨by rw [hR]; decide, by rw [hR]; decide⟩ rfl rfl) (va_recv hK hP (ci := 1) (q0 := 0) rfl rfl) hN hK hP hD hS hA rfl hl.1 rfl (Nat.le_of_ble_eq_true rfl) d_M_giveRow_34 ⟨by rw [hR]; exact Nat.le_of_ble_eq_true rfl, by rw [hR]; exact Nat.le_of_ble_eq_true rfl⟩ (fun H locs hP hD hS => ?_)
            refine lv_aload_n hx hb d_M_giveRow_37 rfl (lv_at hl 0 rfl) ?_
            refine Mg_0_36 hx hb hB hown (hB _ m_897) hK hP d_M_giveRow_38 ?_
            refine lv_if_eq (tgt := 45) hx hb d_M_giveRow_41 (by decide) (fun hc => ?_) (fun hc => ?_)
            · replace h := it_t h hc
              refine lv_aload_n hx hb d_M_giveRow_45 rfl (lv_at hl 0 rfl) ?_
              refine Mg_0_34 hx hb hB hown (hB _ m_895) hK hP d_M_giveRow_46 ?_
              refine lv_bipush (v := (6 : Int32)) hx hb d_M_giveRow_49 (by decide) ?_
              refine lv_aload_n hx hb d_M_giveRow_51 rfl (lv_at hl 0 rfl) ?_
              refine Mg_0_32 hx hb hB hown (hB _ m_893) hK hP d_M_giveRow_52 ?_
              refine lv_imul hx hb d_M_giveRow_55 ?_
              refine lv_iload_n hx hb d_M_giveRow_56 rfl (lv_at hl 1 rfl) ?_
              refine lv_iadd hx hb d_M_giveRow_57 ?_
              refine lv_aload_n hx hb d_M_giveRow_58 rfl (lv_at hl 0 rfl) ?_
              refine Mg_0_53 hx hb hB hown (hB _ m_914) hK hP d_M_giveRow_59 ?_
              refine lv_iconst (v := (0 : Int32)) hx hb d_M_giveRow_62 (by decide) ?_
              obtain ⟨hi, h⟩ := ckb_some h
              refine Ma_33 hx hb hK hP hi d_M_giveRow_63 ?_
              obtain ⟨hi, h⟩ := ckb_some h
              obtain ⟨s4, es4, h⟩ := nm_some h
              refine Ms_21 es4 hx hb hK hP hD hS hi d_M_giveRow_64 (fun H locs hP hD hS => ?_)
              refine lv_aload_n hx hb d_M_giveRow_65 rfl (lv_at hl 0 rfl) ?_
              refine Mg_0_35 hx hb hB hown (hB _ m_896) hK hP d_M_giveRow_66 ?_
              refine lv_bipush (v := (6 : Int32)) hx hb d_M_giveRow_69 (by decide) ?_
              refine lv_aload_n hx hb d_M_giveRow_71 rfl (lv_at hl 0 rfl) ?_
              refine Mg_0_32 hx hb hB hown (hB _ m_893) hK hP d_M_giveRow_72 ?_
              refine lv_imul hx hb d_M_giveRow_75 ?_
              refine lv_iload_n hx hb d_M_giveRow_76 rfl (lv_at hl 1 rfl) ?_
              refine lv_iadd hx hb d_M_giveRow_77 ?_
              refine lv_aload_n hx hb d_M_giveRow_78 rfl (lv_at hl 0 rfl) ?_
              refine Mg_0_54 hx hb hB hown (hB _ m_915) hK hP d_M_giveRow_79 ?_
              refine lv_iconst (v := (0 : Int32)) hx hb d_M_giveRow_82 (by decide) ?_
              obtain ⟨hi, h⟩ := ckb_some h
              refine Ma_34 hx hb hK hP hi d_M_giveRow_83 ?_
              obtain ⟨hi, h⟩ := ckb_some h
              obtain ⟨s5, es5, h⟩ := nm_some h
              refine Ms_22 es5 hx hb hK hP hD hS hi d_M_giveRow_84 (fun H locs hP hD hS => ?_)
              refine lv_iinc (v := (x1 + 1)) (lv' := [(1, .int (x1 + 1)), (0, .ref (a 0))]) hx hb d_M_giveRow_85 hl (k := 1) rfl rfl (by decide) rfl (fun ls hl => ?_)
              refine lv_goto (tgt := 19) hx hb d_M_giveRow_88 (by decide) ?_
              exact ih19 s5 (x1 + 1) H locs ls hP hD hS (lv_sub hl [1, 0] rfl) h
            · replace h := it_f h hc
              exact rf_V (w := (fun z => wM g ca a z ++ tl)) h hx hb hr hlk hK hP hD hS d_M_giveRow_44
    refine lv_istore_n (lv' := [(1, .int (0 : Int32)), (0, .ref (a 0))]) hx hb d_M_giveRow_18 rfl hl (by decide) rfl (fun ls hl => ?_)
    exact L19 N σ (0 : Int32) H locs ls hP hD hS (lv_sub hl [1, 0] rfl) h
  · replace h := it_t h hc
    refine lv_aload_n hx hb d_M_giveRow_10 rfl (lv_at hl 0 rfl) ?_
    refine lv_bipush (v := (-15 : Int32)) hx hb d_M_giveRow_11 (by decide) ?_
    obtain ⟨s6, es6, h⟩ := nm_some h
    refine Mp_0_36 es6 hx hb hB hown (hB _ m_897) hK hP hD hS d_M_giveRow_13 (fun H locs hP hD hS => ?_)
    exact rf_V (w := (fun z => wM g ca a z ++ tl)) h hx hb hr hlk hK hP hD hS d_M_giveRow_16
set_option maxRecDepth 100000 in
set_option maxHeartbeats 4000000 in
theorem c_M_findGroup (l : Launch) (D : va_G) (ca : Nat → ClassId) (g : Bool) (a : Nat → Nat) (tl : va_W) (N : Nat) (σ σ' : St) (r : Int32) (h : f_M_findGroup N σ = some (r, σ')) : CtI l y_M_findGroup ws_M_findGroup rm_M_findGroup 0 0 D vCl (tyM ca) nwM [.ref (a 0)] (wM g ca a σ ++ tl) (wM g ca a σ' ++ tl) r := by
  refine en_I (ws' := BIG) (by decide +kernel) rfl (Nat.le_of_ble_eq_true rfl) ?_
  intro p e s m below meth c A ls R args H locs hR hx hb hr hlk hml hown hB hK hN hP hD hA hS hl
  have hl : lv_has ls 6 [(0, .ref (a 0))] := hl
  unfold f_M_findGroup at h
  refine lv_aload_n hx hb d_M_findGroup_0 rfl (lv_at hl 0 rfl) ?_
  refine Mg_0_43 hx hb hB hown (hB _ m_904) hK hP d_M_findGroup_1 ?_
  refine lv_istore_n (lv' := [(1, .int (gi σ 17)), (0, .ref (a 0))]) hx hb d_M_findGroup_4 rfl hl (by decide) rfl (fun ls hl => ?_)
  refine lv_iconst (v := (0 : Int32)) hx hb d_M_findGroup_5 (by decide) ?_
  have L7 : ∀ (n : Nat) (σ : St) (x1 : Int32) (x2 : Int32) (H : Heap) (locs : List Loc) (ls : Array Slot), va_P D vCl (wM g ca a σ ++ tl) H → va_D A (wM g ca a σ ++ tl) → va_S A s.heap H locs → lv_has ls 6 [(0, .ref (a 0)), (1, .int x1), (2, .int x2)] → f_M_findGroup_7 N n σ x1 x2 = some (r, σ') → W p l e R s m args below meth c H locs 0 0 (MQ below (qb_QI D vCl (tyM ca) (wM g ca a σ' ++ tl) A r) args s 0 0 A) (F0 m 7 ls []) := by
    intro n
    induction n with
    | zero => intro σ x1 x2 H locs ls hP hD hS hl h; cases h
    | succ n ih7 =>
        intro σ x1 x2 H locs ls hP hD hS hl h
        obtain ⟨K7, eK7⟩ : ∃ K, K = f_M_findGroup_7 N n := ⟨_, rfl⟩
        rw [← eK7] at ih7
        replace h : f_M_findGroup_7_b N K7 σ x1 x2 = some (r, σ') := by rw [eK7]; exact h
        unfold f_M_findGroup_7_b at h
        refine lv_iload_n hx hb d_M_findGroup_7 rfl (lv_at hl 2 rfl) ?_
        refine lv_aload_n hx hb d_M_findGroup_8 rfl (lv_at hl 0 rfl) ?_
        refine Mg_0_22 hx hb hB hown (hB _ m_883) hK hP d_M_findGroup_9 ?_
        refine lv_icmp_ge (tgt := 72) hx hb d_M_findGroup_12 (by decide) (fun hc => ?_) (fun hc => ?_)
        · replace h := it_t h hc
          refine lv_iconst (v := (0 : Int32)) hx hb d_M_findGroup_72 (by decide) ?_
          have L74 : ∀ (n : Nat) (σ : St) (x1 : Int32) (x2 : Int32) (H : Heap) (locs : List Loc) (ls : Array Slot), va_P D vCl (wM g ca a σ ++ tl) H → va_D A (wM g ca a σ ++ tl) → va_S A s.heap H locs → lv_has ls 6 [(0, .ref (a 0)), (1, .int x1), (2, .int x2)] → f_M_findGroup_74 N n σ x1 x2 = some (r, σ') → W p l e R s m args below meth c H locs 0 0 (MQ below (qb_QI D vCl (tyM ca) (wM g ca a σ' ++ tl) A r) args s 0 0 A) (F0 m 74 ls []) := by
            intro n
            induction n with
            | zero => intro σ x1 x2 H locs ls hP hD hS hl h; cases h
            | succ n ih74 =>
                intro σ x1 x2 H locs ls hP hD hS hl h
                obtain ⟨K74, eK74⟩ : ∃ K, K = f_M_findGroup_74 N n := ⟨_, rfl⟩
                rw [← eK74] at ih74
                replace h : f_M_findGroup_74_b N K74 σ x1 x2 = some (r, σ') := by rw [eK74]; exact h
                unfold f_M_findGroup_74_b at h
                refine lv_iload_n hx hb d_M_findGroup_74 rfl (lv_at hl 2 rfl) ?_
                refine lv_aload_n hx hb d_M_findGroup_75 rfl (lv_at hl 0 rfl) ?_
                refine Mg_0_43 hx hb hB hown (hB _ m_904) hK hP d_M_findGroup_76 ?_
                refine lv_icmp_ge (tgt := 184) hx hb d_M_findGroup_79 (by decide) (fun hc => ?_) (fun hc => ?_)
                · replace h := it_t h hc
                  refine lv_iconst (v := (0 : Int32)) hx hb d_M_findGroup_184 (by decide) ?_
                  have L186 : ∀ (n : Nat) (σ : St) (x1 : Int32) (x2 : Int32) (H : Heap) (locs : List Loc) (ls : Array Slot), va_P D vCl (wM g ca a σ ++ tl) H → va_D A (wM g ca a σ ++ tl) → va_S A s.heap H locs → lv_has ls 6 [(0, .ref (a 0)), (1, .int x1), (2, .int x2)] → f_M_findGroup_186 N n σ x1 x2 = some (r, σ') → W p l e R s m args below meth c H locs 0 0 (MQ below (qb_QI D vCl (tyM ca) (wM g ca a σ' ++ tl) A r) args s 0 0 A) (F0 m 186 ls []) := by
                    intro n
                    induction n with
                    | zero => intro σ x1 x2 H locs ls hP hD hS hl h; cases h
                    | succ n ih186 =>
                        intro σ x1 x2 H locs ls hP hD hS hl h
                        obtain ⟨K186, eK186⟩ : ∃ K, K = f_M_findGroup_186 N n := ⟨_, rfl⟩
                        rw [← eK186] at ih186
                        replace h : f_M_findGroup_186_b N K186 σ x1 x2 = some (r, σ') := by rw [eK186]; exact h
                        unfold f_M_findGroup_186_b at h
                        refine lv_iload_n hx hb d_M_findGroup_186 rfl (lv_at hl 2 rfl) ?_
                        refine lv_bipush (v := (8 : Int32)) hx hb d_M_findGroup_187 (by decide) ?_
                        refine lv_icmp_ge (tgt := 210) hx hb d_M_findGroup_189 (by decide) (fun hc => ?_) (fun hc => ?_)
                        · replace h := it_t h hc
                          refine lv_aload_n hx hb d_M_findGroup_210 rfl (lv_at hl 0 rfl) ?_
                          refine lv_dup hx hb d_M_findGroup_211 rfl ?_
                          refine Mg_0_43 hx hb hB hown (hB _ m_904) hK hP d_M_findGroup_212 ?_
                          refine lv_iconst (v := (1 : Int32)) hx hb d_M_findGroup_215 (by decide) ?_
                          refine lv_iadd hx hb d_M_findGroup_216 ?_
                          obtain ⟨s1, es1, h⟩ := nm_some h
                          refine Mp_0_43 es1 hx hb hB hown (hB _ m_904) hK hP hD hS d_M_findGroup_217 (fun H locs hP hD hS => ?_)
                          refine lv_iload_n hx hb d_M_findGroup_220 rfl (lv_at hl 1 rfl) ?_
                          exact rf_I (w := (fun z => wM g ca a z ++ tl)) h hx hb hr hlk hK hP hD hS d_M_findGroup_221
                        · replace h := it_f h hc
                          refine lv_aload_n hx hb d_M_findGroup_192 rfl (lv_at hl 0 rfl) ?_
                          refine Mg_0_46 hx hb hB hown (hB _ m_907) hK hP d_M_findGroup_193 ?_
                          refine lv_bipush (v := (8 : Int32)) hx hb d_M_findGroup_196 (by decide) ?_
                          refine lv_iload_n hx hb d_M_findGroup_198 rfl (lv_at hl 1 rfl) ?_
                          refine lv_imul hx hb d_M_findGroup_199 ?_
                          refine lv_iload_n hx hb d_M_findGroup_200 rfl (lv_at hl 2 rfl) ?_
                          refine lv_iadd hx hb d_M_findGroup_201 ?_
                          refine lv_lconst (v := (0 : Int64)) hx hb d_M_findGroup_202 (by decide) ?_
                          obtain ⟨hi, h⟩ := ckb_some h
                          obtain ⟨s2, es2, h⟩ := nm_some h
                          refine Ms_29 es2 hx hb hK hP hD hS hi d_M_findGroup_203 (fun H locs hP hD hS => ?_)
                          refine lv_iinc (v := (x2 + 1)) (lv' := [(2, .int (x2 + 1)), (0, .ref (a 0)), (1, .int x1)]) hx hb d_M_findGroup_204 hl (k := 2) rfl rfl (by decide) rfl (fun ls hl => ?_)
                          refine lv_goto (tgt := 186) hx hb d_M_findGroup_207 (by decide) ?_
                          exact ih186 s2 x1 (x2 + 1) H locs ls hP hD hS (lv_sub hl [1, 2, 0] rfl) h
                  refine lv_istore_n (lv' := [(2, .int (0 : Int32)), (0, .ref (a 0)), (1, .int x1)]) hx hb d_M_findGroup_185 rfl hl (by decide) rfl (fun ls hl => ?_)
                  exact L186 N σ x1 (0 : Int32) H locs ls hP hD hS (lv_sub hl [1, 2, 0] rfl) h
                · replace h := it_f h hc
                  refine lv_iconst (v := (1 : Int32)) hx hb d_M_findGroup_82 (by decide) ?_
                  refine lv_istore_n (lv' := [(3, .int (1 : Int32)), (0, .ref (a 0)), (1, .int x1), (2, .int x2)]) hx hb d_M_findGroup_83 rfl hl (by decide) rfl (fun ls hl => ?_)
                  refine lv_iconst (v := (0 : Int32)) hx hb d_M_findGroup_84 (by decide) ?_
                  have L87 : ∀ (n : Nat) (σ : St) (x1 : Int32) (x2 : Int32) (x3 : Int32) (x4 : Int32) (H : Heap) (locs : List Loc) (ls : Array Slot), va_P D vCl (wM g ca a σ ++ tl) H → va_D A (wM g ca a σ ++ tl) → va_S A s.heap H locs → lv_has ls 6 [(0, .ref (a 0)), (1, .int x1), (2, .int x2), (3, .int x3), (4, .int x4)] → f_M_findGroup_87 N K74 n σ x1 x2 x3 x4 = some (r, σ') → W p l e R s m args below meth c H locs 0 0 (MQ below (qb_QI D vCl (tyM ca) (wM g ca a σ' ++ tl) A r) args s 0 0 A) (F0 m 87 ls []) := by
                    intro n
                    induction n with
                    | zero => intro σ x1 x2 x3 x4 H locs ls hP hD hS hl h; cases h
                    | succ n ih87 =>
                        intro σ x1 x2 x3 x4 H locs ls hP hD hS hl h
                        obtain ⟨K87, eK87⟩ : ∃ K, K = f_M_findGroup_87 N K74 n := ⟨_, rfl⟩
                        rw [← eK87] at ih87
                        replace h : f_M_findGroup_87_b N K74 K87 σ x1 x2 x3 x4 = some (r, σ') := by rw [eK87]; exact h
                        unfold f_M_findGroup_87_b at h
                        refine lv_iload hx hb d_M_findGroup_87 (lv_at hl 4 rfl) ?_
                        refine lv_aload_n hx hb d_M_findGroup_89 rfl (lv_at hl 0 rfl) ?_
                        refine Mg_0_22 hx hb hB hown (hB _ m_883) hK hP d_M_findGroup_90 ?_
                        refine lv_icmp_ge (tgt := 172) hx hb d_M_findGroup_93 (by decide) (fun hc => ?_) (fun hc => ?_)
                        · replace h := it_t h hc
                          refine lv_iload_n hx hb d_M_findGroup_172 rfl (lv_at hl 3 rfl) ?_
                          refine lv_if_eq (tgt := 178) hx hb d_M_findGroup_173 (by decide) (fun hc => ?_) (fun hc => ?_)
                          · replace h := it_t h hc
                            refine lv_iinc (v := (x2 + 1)) (lv' := [(2, .int (x2 + 1)), (0, .ref (a 0)), (1, .int x1), (3, .int x3), (4, .int x4)]) hx hb d_M_findGroup_178 hl (k := 2) rfl rfl (by decide) rfl (fun ls hl => ?_)
                            refine lv_goto (tgt := 74) hx hb d_M_findGroup_181 (by decide) ?_
                            exact ih74 σ x1 (x2 + 1) H locs ls hP hD hS (lv_sub hl [1, 2, 0] rfl) h
                          · replace h := it_f h hc
                            refine lv_iload_n hx hb d_M_findGroup_176 rfl (lv_at hl 2 rfl) ?_
                            exact rf_I (w := (fun z => wM g ca a z ++ tl)) h hx hb hr hlk hK hP hD hS d_M_findGroup_177
                        · replace h := it_f h hc
                          refine lv_aload_n hx hb d_M_findGroup_96 rfl (lv_at hl 0 rfl) ?_
                          refine Mg_0_45 hx hb hB hown (hB _ m_906) hK hP d_M_findGroup_97 ?_
                          refine lv_iconst (v := (4 : Int32)) hx hb d_M_findGroup_100 (by decide) ?_
                          refine lv_iload_n hx hb d_M_findGroup_101 rfl (lv_at hl 2 rfl) ?_
                          refine lv_imul hx hb d_M_findGroup_102 ?_
                          refine lv_iload hx hb d_M_findGroup_103 (lv_at hl 4 rfl) ?_
                          refine lv_iadd hx hb d_M_findGroup_105 ?_
                          obtain ⟨hi, h⟩ := ckb_some h
                          refine Ma_28 hx hb hK hP hi d_M_findGroup_106 ?_
                          refine lv_istore (lv' := [(5, .int (ga σ 22 ((((4 : Int32) * x2) + x4)).toNatClampNeg)), (0, .ref (a 0)), (1, .int x1), (2, .int x2), (3, .int x3), (4, .int x4)]) hx hb d_M_findGroup_107 hl (by decide) rfl (fun ls hl => ?_)
                          refine lv_iload_n hx hb d_M_findGroup_109 rfl (lv_at hl 4 rfl) ?_
                          refine lv_if_eq (tgt := 164) hx hb d_M_findGroup_110 (by decide) (fun hc => ?_) (fun hc => ?_)
                          · replace h := it_t h hc
                            refine lv_iconst (v := (0 : Int32)) hx hb d_M_findGroup_164 (by decide) ?_
                            refine lv_istore_n (lv' := [(3, .int (0 : Int32)), (5, .int (ga σ 22 ((((4 : Int32) * x2) + x4)).toNatClampNeg)), (0, .ref (a 0)), (1, .int x1), (2, .int x2), (4, .int x4)]) hx hb d_M_findGroup_165 rfl hl (by decide) rfl (fun ls hl => ?_)
                            refine lv_iinc (v := (x4 + 1)) (lv' := [(4, .int (x4 + 1)), (3, .int (0 : Int32)), (5, .int (ga σ 22 ((((4 : Int32) * x2) + x4)).toNatClampNeg)), (0, .ref (a 0)), (1, .int x1), (2, .int x2)]) hx hb d_M_findGroup_166 hl (k := 5) rfl rfl (by decide) rfl (fun ls hl => ?_)
                            refine lv_goto (tgt := 87) hx hb d_M_findGroup_169 (by decide) ?_
                            exact ih87 σ x1 x2 (0 : Int32) (x4 + 1) H locs ls hP hD hS (lv_sub hl [3, 4, 5, 1, 0] rfl) h
                          · replace h := it_f h hc
                            refine lv_iload hx hb d_M_findGroup_113 (lv_at hl 0 rfl) ?_
                            refine lv_aload_n hx hb d_M_findGroup_115 rfl (lv_at hl 1 rfl) ?_
                            refine Mg_0_45 hx hb hB hown (hB _ m_906) hK hP d_M_findGroup_116 ?_
                            refine lv_iconst (v := (4 : Int32)) hx hb d_M_findGroup_119 (by decide) ?_
                            refine lv_iload_n hx hb d_M_findGroup_120 rfl (lv_at hl 2 rfl) ?_
                            refine lv_imul hx hb d_M_findGroup_121 ?_
                            refine lv_iload hx hb d_M_findGroup_122 (lv_at hl 5 rfl) ?_
                            refine lv_iadd hx hb d_M_findGroup_124 ?_
                            obtain ⟨hi, h⟩ := ckb_some h
                            refine Ma_28 hx hb hK hP hi d_M_findGroup_125 ?_
                            refine lv_icmp_ne (tgt := 164) hx hb d_M_findGroup_126 (by decide) (fun hc => ?_) (fun hc => ?_)
                            · replace h := it_f h hc
                              refine lv_iconst (v := (0 : Int32)) hx hb d_M_findGroup_164 (by decide) ?_
                              refine lv_istore_n (lv' := [(3, .int (0 : Int32)), (5, .int (ga σ 22 ((((4 : Int32) * x2) + x4)).toNatClampNeg)), (0, .ref (a 0)), (1, .int x1), (2, .int x2), (4, .int x4)]) hx hb d_M_findGroup_165 rfl hl (by decide) rfl (fun ls hl => ?_)
                              refine lv_iinc (v := (x4 + 1)) (lv' := [(4, .int (x4 + 1)), (3, .int (0 : Int32)), (5, .int (ga σ 22 ((((4 : Int32) * x2) + x4)).toNatClampNeg)), (0, .ref (a 0)), (1, .int x1), (2, .int x2)]) hx hb d_M_findGroup_166 hl (k := 5) rfl rfl (by decide) rfl (fun ls hl => ?_)
                              refine lv_goto (tgt := 87) hx hb d_M_findGroup_169 (by decide) ?_
                              exact ih87 σ x1 x2 (0 : Int32) (x4 + 1) H locs ls hP hD hS (lv_sub hl [3, 4, 5, 1, 0] rfl) h
                            · replace h := it_t h hc
                              refine lv_iload hx hb d_M_findGroup_129 (lv_at hl 0 rfl) ?_
                              refine lv_if_ne (tgt := 160) hx hb d_M_findGroup_131 (by decide) (fun hc => ?_) (fun hc => ?_)
                              · replace h := it_f h hc
                                refine lv_iconst (v := (1 : Int32)) hx hb d_M_findGroup_160 (by decide) ?_
                                refine lv_goto (tgt := 165) hx hb d_M_findGroup_161 (by decide) ?_
                                refine lv_istore_n (lv' := [(3, .int (1 : Int32)), (5, .int (ga σ 22 ((((4 : Int32) * x2) + x4)).toNatClampNeg)), (0, .ref (a 0)), (1, .int x1), (2, .int x2), (4, .int x4)]) hx hb d_M_findGroup_165 rfl hl (by decide) rfl (fun ls hl => ?_)
                                refine lv_iinc (v := (x4 + 1)) (lv' := [(4, .int (x4 + 1)), (3, .int (1 : Int32)), (5, .int (ga σ 22 ((((4 : Int32) * x2) + x4)).toNatClampNeg)), (0, .ref (a 0)), (1, .int x1), (2, .int x2)]) hx hb d_M_findGroup_166 hl (k := 5) rfl rfl (by decide) rfl (fun ls hl => ?_)
                                refine lv_goto (tgt := 87) hx hb d_M_findGroup_169 (by decide) ?_
                                exact ih87 σ x1 x2 (1 : Int32) (x4 + 1) H locs ls hP hD hS (lv_sub hl [3, 4, 5, 1, 0] rfl) h
                              · replace h := it_t h hc
                                refine lv_aload_n hx hb d_M_findGroup_134 rfl (lv_at hl 1 rfl) ?_
                                refine Mg_0_44 hx hb hB hown (hB _ m_905) hK hP d_M_findGroup_135 ?_
                                refine lv_iconst (v := (4 : Int32)) hx hb d_M_findGroup_138 (by decide) ?_
                                refine lv_iload_n hx hb d_M_findGroup_139 rfl (lv_at hl 3 rfl) ?_
                                refine lv_imul hx hb d_M_findGroup_140 ?_
                                refine lv_iload hx hb d_M_findGroup_141 (lv_at hl 5 rfl) ?_
                                refine lv_iadd hx hb d_M_findGroup_143 ?_
                                obtain ⟨hi, h⟩ := ckb_some h
                                refine Ma_27 hx hb hK hP hi d_M_findGroup_144 ?_
                                refine lv_aload_n hx hb d_M_findGroup_145 rfl (lv_at hl 1 rfl) ?_
                                refine Mg_0_44 hx hb hB hown (hB _ m_905) hK hP d_M_findGroup_146 ?_
                                refine lv_iconst (v := (4 : Int32)) hx hb d_M_findGroup_149 (by decide) ?_
                                refine lv_iload_n hx hb d_M_findGroup_150 rfl (lv_at hl 2 rfl) ?_
                                refine lv_imul hx hb d_M_findGroup_151 ?_
                                refine lv_iload hx hb d_M_findGroup_152 (lv_at hl 5 rfl) ?_
                                refine lv_iadd hx hb d_M_findGroup_154 ?_
                                obtain ⟨hi, h⟩ := ckb_some h
                                refine Ma_27 hx hb hK hP hi d_M_findGroup_155 ?_
                                refine W.lcmp hx hb d_M_findGroup_156 ?_
                                refine lv_if_ne (tgt := 164) hx hb d_M_findGroup_157 (by decide) (fun hc => ?_) (fun hc => ?_)
                                · replace h := it_f h hc
                                  refine lv_iconst (v := (0 : Int32)) hx hb d_M_findGroup_164 (by decide) ?_
                                  refine lv_istore_n (lv' := [(3, .int (0 : Int32)), (5, .int (ga σ 22 ((((4 : Int32) * x2) + x4)).toNatClampNeg)), (0, .ref (a 0)), (1, .int x1), (2, .int x2), (4, .int x4)]) hx hb d_M_findGroup_165 rfl hl (by decide) rfl (fun ls hl => ?_)
                                  refine lv_iinc (v := (x4 + 1)) (lv' := [(4, .int (x4 + 1)), (3, .int (0 : Int32)), (5, .int (ga σ 22 ((((4 : Int32) * x2) + x4)).toNatClampNeg)), (0, .ref (a 0)), (1, .int x1), (2, .int x2)]) hx hb d_M_findGroup_166 hl (k := 5) rfl rfl (by decide) rfl (fun ls hl => ?_)
                                  refine lv_goto (tgt := 87) hx hb d_M_findGroup_169 (by decide) ?_
                                  exact ih87 σ x1 x2 (0 : Int32) (x4 + 1) H locs ls hP hD hS (lv_sub hl [3, 4, 5, 1, 0] rfl) h
                                · replace h := it_t h hc
                                  refine lv_iconst (v := (1 : Int32)) hx hb d_M_findGroup_160 (by decide) ?_
                                  refine lv_goto (tgt := 165) hx hb d_M_findGroup_161 (by decide) ?_
                                  refine lv_istore_n (lv' := [(3, .int (1 : Int32)), (5, .int (ga σ 22 ((((4 : Int32) * x2) + x4)).toNatClampNeg)), (0, .ref (a 0)), (1, .int x1), (2, .int x2), (4, .int x4)]) hx hb d_M_findGroup_165 rfl hl (by decide) rfl (fun ls hl => ?_)
                                  refine lv_iinc (v := (x4 + 1)) (lv' := [(4, .int (x4 + 1)), (3, .int (1 : Int32)), (5, .int (ga σ 22 ((((4 : Int32) * x2) + x4)).toNatClampNeg)), (0, .ref (a 0)), (1, .int x1), (2, .int x2)]) hx hb d_M_findGroup_166 hl (k := 5) rfl rfl (by decide) rfl (fun ls hl => ?_)
                                  refine lv_goto (tgt := 87) hx hb d_M_findGroup_169 (by decide) ?_
                                  exact ih87 σ x1 x2 (1 : Int32) (x4 + 1) H locs ls hP hD hS (lv_sub hl [3, 4, 5, 1, 0] rfl) h
                  refine lv_istore (lv' := [(4, .int (0 : Int32)), (3, .int (1 : Int32)), (0, .ref (a 0)), (1, .int x1), (2, .int x2)]) hx hb d_M_findGroup_85 hl (by decide) rfl (fun ls hl => ?_)
                  exact L87 N σ x1 x2 (1 : Int32) (0 : Int32) H locs ls hP hD hS (lv_sub hl [2, 3, 4, 1, 0] rfl) h
          refine lv_istore_n (lv' := [(2, .int (0 : Int32)), (0, .ref (a 0)), (1, .int x1)]) hx hb d_M_findGroup_73 rfl hl (by decide) rfl (fun ls hl => ?_)
          exact L74 N σ x1 (0 : Int32) H locs ls hP hD hS (lv_sub hl [1, 2, 0] rfl) h
        · replace h := it_f h hc
          refine lv_aload_n hx hb d_M_findGroup_15 rfl (lv_at hl 0 rfl) ?_
          refine lv_aload_n hx hb d_M_findGroup_16 rfl (lv_at hl 0 rfl) ?_
          refine Mg_0_23 hx hb hB hown (hB _ m_884) hK hP d_M_findGroup_17 ?_
          refine lv_iload_n hx hb d_M_findGroup_20 rfl (lv_at hl 2 rfl) ?_
          obtain ⟨hi, h⟩ := ckb_some h
          refine Ma_17 hx hb hK hP hi d_M_findGroup_21 ?_
          obtain ⟨r3, s4, hr3, h⟩ := bd_some h
          cases r3
          refine go_VV (rest := []) ⟨hx, hb, hml, hown, hB⟩ nwM_ok (c_M_workOut l D ca g a tl N σ s4 (ga σ 14 (x2).toNatClampNeg) hr3) (cwx_V hB m_1166 kw_M_workOut ⟨by rw [hR]; decide, by rw [hR]; decide⟩ rfl rfl) (va_recv hK hP (ci := 1) (q0 := 0) rfl rfl) hN hK hP hD hS hA rfl hl.1 rfl (Nat.le_of_ble_eq_true rfl) d_M_findGroup_22 ⟨by rw [hR]; exact Nat.le_of_ble_eq_true rfl, by rw [hR]; exact Nat.le_of_ble_eq_true rfl⟩ (fun H locs hP hD hS => ?_)
          refine lv_aload_n hx hb d_M_findGroup_25 rfl (lv_at hl 0 rfl) ?_
          refine Mg_0_36 hx hb hB hown (hB _ m_897) hK hP d_M_findGroup_26 ?_
          refine lv_if_eq (tgt := 34) hx hb d_M_findGroup_29 (by decide) (fun hc => ?_) (fun hc => ?_)
          · replace h := it_t h hc
            refine lv_aload_n hx hb d_M_findGroup_34 rfl (lv_at hl 0 rfl) ?_
            refine Mg_0_44 hx hb hB hown (hB _ m_905) hK hP d_M_findGroup_35 ?_
            refine lv_iconst (v := (4 : Int32)) hx hb d_M_findGroup_38 (by decide) ?_
            refine lv_iload_n hx hb d_M_findGroup_39 rfl (lv_at hl 1 rfl) ?_
            refine lv_imul hx hb d_M_findGroup_40 ?_
            refine lv_iload_n hx hb d_M_findGroup_41 rfl (lv_at hl 2 rfl) ?_
            refine lv_iadd hx hb d_M_findGroup_42 ?_
            refine lv_aload_n hx hb d_M_findGroup_43 rfl (lv_at hl 0 rfl) ?_
            refine Mg_0_53 hx hb hB hown (hB _ m_914) hK hP d_M_findGroup_44 ?_
            refine lv_iconst (v := (0 : Int32)) hx hb d_M_findGroup_47 (by decide) ?_
            obtain ⟨hi, h⟩ := ckb_some h
            refine Ma_33 hx hb hK hP hi d_M_findGroup_48 ?_
            obtain ⟨hi, h⟩ := ckb_some h
            obtain ⟨s5, es5, h⟩ := nm_some h
            refine Ms_27 es5 hx hb hK hP hD hS hi d_M_findGroup_49 (fun H locs hP hD hS => ?_)
            refine lv_aload_n hx hb d_M_findGroup_50 rfl (lv_at hl 0 rfl) ?_
            refine Mg_0_45 hx hb hB hown (hB _ m_906) hK hP d_M_findGroup_51 ?_
            refine lv_iconst (v := (4 : Int32)) hx hb d_M_findGroup_54 (by decide) ?_
            refine lv_iload_n hx hb d_M_findGroup_55 rfl (lv_at hl 1 rfl) ?_
            refine lv_imul hx hb d_M_findGroup_56 ?_
            refine lv_iload_n hx hb d_M_findGroup_57 rfl (lv_at hl 2 rfl) ?_
            refine lv_iadd hx hb d_M_findGroup_58 ?_
            refine lv_aload_n hx hb d_M_findGroup_59 rfl (lv_at hl 0 rfl) ?_
            refine Mg_0_54 hx hb hB hown (hB _ m_915) hK hP d_M_findGroup_60 ?_
            refine lv_iconst (v := (0 : Int32)) hx hb d_M_findGroup_63 (by decide) ?_
            obtain ⟨hi, h⟩ := ckb_some h
            refine Ma_34 hx hb hK hP hi d_M_findGroup_64 ?_
            obtain ⟨hi, h⟩ := ckb_some h
            obtain ⟨s6, es6, h⟩ := nm_some h
            refine Ms_28 es6 hx hb hK hP hD hS hi d_M_findGroup_65 (fun H locs hP hD hS => ?_)
            refine lv_iinc (v := (x2 + 1)) (lv' := [(2, .int (x2 + 1)), (0, .ref (a 0)), (1, .int x1)]) hx hb d_M_findGroup_66 hl (k := 2) rfl rfl (by decide) rfl (fun ls hl => ?_)
            refine lv_goto (tgt := 7) hx hb d_M_findGroup_69 (by decide) ?_
            exact ih7 s6 x1 (x2 + 1) H locs ls hP hD hS (lv_sub hl [1, 2, 0] rfl) h
          · replace h := it_f h hc
            refine lv_iconst (v := (0 : Int32)) hx hb d_M_findGroup_32 (by decide) ?_
            exact rf_I (w := (fun z => wM g ca a z ++ tl)) h hx hb hr hlk hK hP hD hS d_M_findGroup_33
  refine lv_istore_n (lv' := [(2, .int (0 : Int32)), (1, .int (gi σ 17)), (0, .ref (a 0))]) hx hb d_M_findGroup_6 rfl hl (by decide) rfl (fun ls hl => ?_)
  exact L7 N σ (gi σ 17) (0 : Int32) H locs ls hP hD hS (lv_sub hl [2, 1, 0] rfl) h
set_option maxRecDepth 100000 in
set_option maxHeartbeats 4000000 in
theorem c_M_putInGroup (l : Launch) (D : va_G) (ca : Nat → ClassId) (g : Bool) (a : Nat → Nat) (tl : va_W) (N : Nat) (σ σ' : St) (h : f_M_putInGroup N σ = some ((), σ')) : CtV l y_M_putInGroup ws_M_putInGroup rm_M_putInGroup 0 0 D vCl (tyM ca) nwM [.ref (a 0)] (wM g ca a σ ++ tl) (wM g ca a σ' ++ tl) := by
  refine en_V (ws' := BIG) (by decide +kernel) rfl (Nat.le_of_ble_eq_true rfl) ?_
  intro p e s m below meth c A ls R args H locs hR hx hb hr hlk hml hown hB hK hN hP hD hA hS hl
  have hl : lv_has ls 5 [(0, .ref (a 0))] := hl
  unfold f_M_putInGroup at h
  refine lv_aload_n hx hb d_M_putInGroup_0 rfl (lv_at hl 0 rfl) ?_
  obtain ⟨r1, s2, hr1, h⟩ := bd_some h
  refine go_VI (rest := []) ⟨hx, hb, hml, hown, hB⟩ nwM_ok (c_M_findGroup l D ca g a tl N σ s2 r1 hr1) (cwx_V hB m_1213 kw_M_findGroup ⟨by rw [hR]; decide, by rw [hR]; decide⟩ rfl rfl) (va_recv hK hP (ci := 1) (q0 := 0) rfl rfl) hN hK hP hD hS hA rfl hl.1 rfl (Nat.le_of_ble_eq_true rfl) d_M_putInGroup_1 ⟨by rw [hR]; exact Nat.le_of_ble_eq_true rfl, by rw [hR]; exact Nat.le_of_ble_eq_true rfl⟩ (fun H locs hP hD hS => ?_)
  refine lv_istore_n (lv' := [(1, .int r1), (0, .ref (a 0))]) hx hb d_M_putInGroup_4 rfl hl (by decide) rfl (fun ls hl => ?_)
  refine lv_aload_n hx hb d_M_putInGroup_5 rfl (lv_at hl 1 rfl) ?_
  refine Mg_0_36 hx hb hB hown (hB _ m_897) hK hP d_M_putInGroup_6 ?_
  refine lv_if_eq (tgt := 13) hx hb d_M_putInGroup_9 (by decide) (fun hc => ?_) (fun hc => ?_)
  · replace h := it_t h hc
    refine lv_aload_n hx hb d_M_putInGroup_13 rfl (lv_at hl 1 rfl) ?_
    refine Mg_0_39 hx hb hB hown (hB _ m_900) hK hP d_M_putInGroup_14 ?_
    refine lv_istore_n (lv' := [(2, .int (gi s2 16)), (1, .int r1), (0, .ref (a 0))]) hx hb d_M_putInGroup_17 rfl hl (by decide) rfl (fun ls hl => ?_)
    refine lv_aload_n hx hb d_M_putInGroup_18 rfl (lv_at hl 2 rfl) ?_
    refine Mg_0_40 hx hb hB hown (hB _ m_901) hK hP d_M_putInGroup_19 ?_
    refine lv_iload_n hx hb d_M_putInGroup_22 rfl (lv_at hl 0 rfl) ?_
    refine lv_iload_n hx hb d_M_putInGroup_23 rfl (lv_at hl 1 rfl) ?_
    obtain ⟨hi, h⟩ := ckb_some h
    obtain ⟨s3, es3, h⟩ := nm_some h
    refine Ms_24 es3 hx hb hK hP hD hS hi d_M_putInGroup_24 (fun H locs hP hD hS => ?_)
    refine lv_aload_n hx hb d_M_putInGroup_25 rfl (lv_at hl 2 rfl) ?_
    refine lv_dup hx hb d_M_putInGroup_26 rfl ?_
    refine Mg_0_39 hx hb hB hown (hB _ m_900) hK hP d_M_putInGroup_27 ?_
    refine lv_iconst (v := (1 : Int32)) hx hb d_M_putInGroup_30 (by decide) ?_
    refine lv_iadd hx hb d_M_putInGroup_31 ?_
    obtain ⟨s4, es4, h⟩ := nm_some h
    refine Mp_0_39 es4 hx hb hB hown (hB _ m_900) hK hP hD hS d_M_putInGroup_32 (fun H locs hP hD hS => ?_)
    refine lv_iconst (v := (0 : Int32)) hx hb d_M_putInGroup_35 (by decide) ?_
    have L37 : ∀ (n : Nat) (σ : St) (x1 : Int32) (x2 : Int32) (x3 : Int32) (H : Heap) (locs : List Loc) (ls : Array Slot), va_P D vCl (wM g ca a σ ++ tl) H → va_D A (wM g ca a σ ++ tl) → va_S A s.heap H locs → lv_has ls 5 [(0, .ref (a 0)), (1, .int x1), (2, .int x2), (3, .int x3)] → f_M_putInGroup_37 N n σ x1 x2 x3 = some ((), σ') → W p l e R s m args below meth c H locs 0 0 (MQ below (qb_QV D vCl (tyM ca) (wM g ca a σ' ++ tl) A) args s 0 0 A) (F0 m 37 ls []) := by
      intro n
      induction n with
      | zero => intro σ x1 x2 x3 H locs ls hP hD hS hl h; cases h
      | succ n ih37 =>
          intro σ x1 x2 x3 H locs ls hP hD hS hl h
          obtain ⟨K37, eK37⟩ : ∃ K, K = f_M_putInGroup_37 N n := ⟨_, rfl⟩
          rw [← eK37] at ih37
          replace h : f_M_putInGroup_37_b N K37 σ x1 x2 x3 = some ((), σ') := by rw [eK37]; exact h
          unfold f_M_putInGroup_37_b at h
          refine lv_iload_n hx hb d_M_putInGroup_37 rfl (lv_at hl 3 rfl) ?_
          refine lv_aload_n hx hb d_M_putInGroup_38 rfl (lv_at hl 0 rfl) ?_
          refine Mg_0_14 hx hb hB hown (hB _ m_875) hK hP d_M_putInGroup_39 ?_
          refine lv_icmp_ge (tgt := 210) hx hb d_M_putInGroup_42 (by decide) (fun hc => ?_) (fun hc => ?_)
          · replace h := it_t h hc
            exact rf_V (w := (fun z => wM g ca a z ++ tl)) h hx hb hr hlk hK hP hD hS d_M_putInGroup_210
          · replace h := it_f h hc
            refine lv_aload_n hx hb d_M_putInGroup_45 rfl (lv_at hl 0 rfl) ?_
            refine Mg_0_6 hx hb hB hown (hB _ m_867) hK hP d_M_putInGroup_46 ?_
            refine lv_aload_n hx hb d_M_putInGroup_49 rfl (lv_at hl 0 rfl) ?_
            refine Mg_0_15 hx hb hB hown (hB _ m_876) hK hP d_M_putInGroup_50 ?_
            refine lv_iload_n hx hb d_M_putInGroup_53 rfl (lv_at hl 3 rfl) ?_
            obtain ⟨hi, h⟩ := ckb_some h
            refine Ma_13 hx hb hK hP hi d_M_putInGroup_54 ?_
            obtain ⟨hi, h⟩ := ckb_some h
            refine Ma_5 hx hb hK hP hi d_M_putInGroup_55 ?_
            refine lv_bipush (v := (30 : Int32)) hx hb d_M_putInGroup_56 (by decide) ?_
            refine lv_isub hx hb d_M_putInGroup_58 ?_
            refine lv_istore (lv' := [(4, .int ((ga σ 3 ((ga σ 10 (x3).toNatClampNeg)).toNatClampNeg) - (30 : Int32))), (0, .ref (a 0)), (1, .int x1), (2, .int x2), (3, .int x3)]) hx hb d_M_putInGroup_59 hl (by decide) rfl (fun ls hl => ?_)
            refine lv_aload_n hx hb d_M_putInGroup_61 rfl (lv_at hl 1 rfl) ?_
            refine Mg_0_47 hx hb hB hown (hB _ m_908) hK hP d_M_putInGroup_62 ?_
            refine lv_iload_n hx hb d_M_putInGroup_65 rfl (lv_at hl 4 rfl) ?_
            obtain ⟨hi, h⟩ := ckb_some h
            refine Ma_30 hx hb hK hP hi d_M_putInGroup_66 ?_
            refine lv_if_eq (tgt := 204) hx hb d_M_putInGroup_67 (by decide) (fun hc => ?_) (fun hc => ?_)
            · replace h := it_t h hc
              refine lv_iinc (v := (x3 + 1)) (lv' := [(3, .int (x3 + 1)), (4, .int ((ga σ 3 ((ga σ 10 (x3).toNatClampNeg)).toNatClampNeg) - (30 : Int32))), (0, .ref (a 0)), (1, .int x1), (2, .int x2)]) hx hb d_M_putInGroup_204 hl (k := 4) rfl rfl (by decide) rfl (fun ls hl => ?_)
              refine lv_goto (tgt := 37) hx hb d_M_putInGroup_207 (by decide) ?_
              exact ih37 σ x1 x2 (x3 + 1) H locs ls hP hD hS (lv_sub hl [2, 3, 4, 0] rfl) h
            · replace h := it_f h hc
              refine lv_iload hx hb d_M_putInGroup_70 (lv_at hl 0 rfl) ?_
              refine lv_if_ne (tgt := 78) hx hb d_M_putInGroup_72 (by decide) (fun hc => ?_) (fun hc => ?_)
              · replace h := it_f h hc
                refine lv_aload_n hx hb d_M_putInGroup_78 rfl (lv_at hl 1 rfl) ?_
                refine lv_aload_n hx hb d_M_putInGroup_79 rfl (lv_at hl 1 rfl) ?_
                refine Mg_0_7 hx hb hB hown (hB _ m_868) hK hP d_M_putInGroup_80 ?_
                refine lv_aload_n hx hb d_M_putInGroup_83 rfl (lv_at hl 1 rfl) ?_
                refine Mg_0_15 hx hb hB hown (hB _ m_876) hK hP d_M_putInGroup_84 ?_
                refine lv_iload_n hx hb d_M_putInGroup_87 rfl (lv_at hl 4 rfl) ?_
                obtain ⟨hi, h⟩ := ckb_some h
                refine Ma_13 hx hb hK hP hi d_M_putInGroup_88 ?_
                obtain ⟨hi, h⟩ := ckb_some h
                refine Ma_6 hx hb hK hP hi d_M_putInGroup_89 ?_
                obtain ⟨r5, s6, hr5, h⟩ := bd_some h
                cases r5
                refine go_VV (rest := []) ⟨hx, hb, hml, hown, hB⟩ nwM_ok (c_M_workOut l D ca g a tl N σ s6 (ga σ 4 ((ga σ 10 (x3).toNatClampNeg)).toNatClampNeg) hr5) (cwx_V hB m_1166 kw_M_workOut ⟨by rw [hR]; decide, by rw [hR]; decide⟩ rfl rfl) (va_recv hK hP (ci := 1) (q0 := 0) rfl rfl) hN hK hP hD hS hA rfl hl.1 rfl (Nat.le_of_ble_eq_true rfl) d_M_putInGroup_90 ⟨by rw [hR]; exact Nat.le_of_ble_eq_true rfl, by rw [hR]; exact Nat.le_of_ble_eq_true rfl⟩ (fun H locs hP hD hS => ?_)
                refine lv_aload_n hx hb d_M_putInGroup_93 rfl (lv_at hl 1 rfl) ?_
                refine Mg_0_36 hx hb hB hown (hB _ m_897) hK hP d_M_putInGroup_94 ?_
                refine lv_if_eq (tgt := 101) hx hb d_M_putInGroup_97 (by decide) (fun hc => ?_) (fun hc => ?_)
                · replace h := it_t h hc
                  refine lv_aload_n hx hb d_M_putInGroup_101 rfl (lv_at hl 1 rfl) ?_
                  refine Mg_0_41 hx hb hB hown (hB _ m_902) hK hP d_M_putInGroup_102 ?_
                  refine lv_bipush (v := (8 : Int32)) hx hb d_M_putInGroup_105 (by decide) ?_
                  refine lv_iload_n hx hb d_M_putInGroup_107 rfl (lv_at hl 3 rfl) ?_
                  refine lv_imul hx hb d_M_putInGroup_108 ?_
                  refine lv_iload_n hx hb d_M_putInGroup_109 rfl (lv_at hl 4 rfl) ?_
                  refine lv_iadd hx hb d_M_putInGroup_110 ?_
                  refine lv_aload_n hx hb d_M_putInGroup_111 rfl (lv_at hl 1 rfl) ?_
                  refine Mg_0_53 hx hb hB hown (hB _ m_914) hK hP d_M_putInGroup_112 ?_
                  refine lv_iconst (v := (0 : Int32)) hx hb d_M_putInGroup_115 (by decide) ?_
                  obtain ⟨hi, h⟩ := ckb_some h
                  refine Ma_33 hx hb hK hP hi d_M_putInGroup_116 ?_
                  obtain ⟨hi, h⟩ := ckb_some h
                  obtain ⟨s7, es7, h⟩ := nm_some h
                  refine Ms_25 es7 hx hb hK hP hD hS hi d_M_putInGroup_117 (fun H locs hP hD hS => ?_)
                  refine lv_aload_n hx hb d_M_putInGroup_118 rfl (lv_at hl 1 rfl) ?_
                  refine Mg_0_42 hx hb hB hown (hB _ m_903) hK hP d_M_putInGroup_119 ?_
                  refine lv_bipush (v := (8 : Int32)) hx hb d_M_putInGroup_122 (by decide) ?_
                  refine lv_iload_n hx hb d_M_putInGroup_124 rfl (lv_at hl 3 rfl) ?_
                  refine lv_imul hx hb d_M_putInGroup_125 ?_
                  refine lv_iload_n hx hb d_M_putInGroup_126 rfl (lv_at hl 4 rfl) ?_
                  refine lv_iadd hx hb d_M_putInGroup_127 ?_
                  refine lv_aload_n hx hb d_M_putInGroup_128 rfl (lv_at hl 1 rfl) ?_
                  refine Mg_0_54 hx hb hB hown (hB _ m_915) hK hP d_M_putInGroup_129 ?_
                  refine lv_iconst (v := (0 : Int32)) hx hb d_M_putInGroup_132 (by decide) ?_
                  obtain ⟨hi, h⟩ := ckb_some h
                  refine Ma_34 hx hb hK hP hi d_M_putInGroup_133 ?_
                  obtain ⟨hi, h⟩ := ckb_some h
                  obtain ⟨s8, es8, h⟩ := nm_some h
                  refine Ms_26 es8 hx hb hK hP hD hS hi d_M_putInGroup_134 (fun H locs hP hD hS => ?_)
                  refine lv_iload hx hb d_M_putInGroup_135 (lv_at hl 0 rfl) ?_
                  refine lv_iconst (v := (2 : Int32)) hx hb d_M_putInGroup_137 (by decide) ?_
                  have L147 : ∀ (σ : St) (x1 : Int32) (x2 : Int32) (x3 : Int32) (H : Heap) (locs : List Loc) (ls : Array Slot), va_P D vCl (wM g ca a σ ++ tl) H → va_D A (wM g ca a σ ++ tl) → va_S A s.heap H locs → lv_has ls 5 [(0, .ref (a 0)), (1, .int x1), (2, .int x2), (3, .int x3)] → f_M_putInGroup_147 N K37 σ x1 x2 x3 = some ((), σ') → W p l e R s m args below meth c H locs 0 0 (MQ below (qb_QV D vCl (tyM ca) (wM g ca a σ' ++ tl) A) args s 0 0 A) (F0 m 147 ls []) := by
                    intro σ x1 x2 x3 H locs ls hP hD hS hl h
                    unfold f_M_putInGroup_147 at h
                    refine lv_aload_n hx hb d_M_putInGroup_147 rfl (lv_at hl 0 rfl) ?_
                    refine lv_iload_n hx hb d_M_putInGroup_148 rfl (lv_at hl 2 rfl) ?_
                    refine lv_iload_n hx hb d_M_putInGroup_149 rfl (lv_at hl 3 rfl) ?_
                    obtain ⟨r9, s10, hr9, h⟩ := bd_some h
                    refine go_VI (rest := []) ⟨hx, hb, hml, hown, hB⟩ nwM_ok (c_M_countsIn l D ca g a tl N σ s10 x2 x3 r9 hr9) (cwx_V hB m_1190 kw_M_countsIn ⟨by rw [hR]; decide, by rw [hR]; decide⟩ rfl rfl) (va_recv hK hP (ci := 1) (q0 := 0) rfl rfl) hN hK hP hD hS hA rfl hl.1 rfl (Nat.le_of_ble_eq_true rfl) d_M_putInGroup_150 ⟨by rw [hR]; exact Nat.le_of_ble_eq_true rfl, by rw [hR]; exact Nat.le_of_ble_eq_true rfl⟩ (fun H locs hP hD hS => ?_)
                    refine lv_if_eq (tgt := 204) hx hb d_M_putInGroup_153 (by decide) (fun hc => ?_) (fun hc => ?_)
                    · replace h := it_t h hc
                      refine lv_iinc (v := (x3 + 1)) (lv' := [(3, .int (x3 + 1)), (0, .ref (a 0)), (1, .int x1), (2, .int x2)]) hx hb d_M_putInGroup_204 hl (k := 3) rfl rfl (by decide) rfl (fun ls hl => ?_)
                      refine lv_goto (tgt := 37) hx hb d_M_putInGroup_207 (by decide) ?_
                      exact ih37 s10 x1 x2 (x3 + 1) H locs ls hP hD hS (lv_sub hl [1, 2, 3, 0] rfl) h
                    · replace h := it_f h hc
                      refine lv_aload_n hx hb d_M_putInGroup_156 rfl (lv_at hl 0 rfl) ?_
                      refine Mg_0_46 hx hb hB hown (hB _ m_907) hK hP d_M_putInGroup_157 ?_
                      refine lv_bipush (v := (8 : Int32)) hx hb d_M_putInGroup_160 (by decide) ?_
                      refine lv_iload_n hx hb d_M_putInGroup_162 rfl (lv_at hl 1 rfl) ?_
                      refine lv_imul hx hb d_M_putInGroup_163 ?_
                      refine lv_iload_n hx hb d_M_putInGroup_164 rfl (lv_at hl 3 rfl) ?_
                      refine lv_iadd hx hb d_M_putInGroup_165 ?_
                      refine lv_dup2_11 hx hb d_M_putInGroup_166 rfl rfl ?_
                      obtain ⟨hi, h⟩ := ckb_some h
                      refine Ma_29 hx hb hK hP hi d_M_putInGroup_167 ?_
                      refine lv_aload_n hx hb d_M_putInGroup_168 rfl (lv_at hl 0 rfl) ?_
                      refine Mg_0_53 hx hb hB hown (hB _ m_914) hK hP d_M_putInGroup_169 ?_
                      refine lv_iconst (v := (0 : Int32)) hx hb d_M_putInGroup_172 (by decide) ?_
                      obtain ⟨hi, h⟩ := ckb_some h
                      refine Ma_33 hx hb hK hP hi d_M_putInGroup_173 ?_
                      refine lv_ladd hx hb d_M_putInGroup_174 ?_
                      obtain ⟨hi, h⟩ := ckb_some h
                      obtain ⟨s11, es11, h⟩ := nm_some h
                      refine Ms_29 es11 hx hb hK hP hD hS hi d_M_putInGroup_175 (fun H locs hP hD hS => ?_)
                      refine lv_aload_n hx hb d_M_putInGroup_176 rfl (lv_at hl 0 rfl) ?_
                      refine Mg_0_46 hx hb hB hown (hB _ m_907) hK hP d_M_putInGroup_177 ?_
                      refine lv_bipush (v := (8 : Int32)) hx hb d_M_putInGroup_180 (by decide) ?_
                      refine lv_iload_n hx hb d_M_putInGroup_182 rfl (lv_at hl 1 rfl) ?_
                      refine lv_imul hx hb d_M_putInGroup_183 ?_
                      refine lv_iload_n hx hb d_M_putInGroup_184 rfl (lv_at hl 3 rfl) ?_
                      refine lv_iadd hx hb d_M_putInGroup_185 ?_
                      obtain ⟨hi, h⟩ := ckb_some h
                      refine Ma_29 hx hb hK hP hi d_M_putInGroup_186 ?_
                      obtain ⟨r12, s13, hr12, h⟩ := bd_some h
                      refine go_SL (rest := []) ⟨hx, hb, hml, hown, hB⟩ nwM_ok (c_M_size l D ca g a tl N s11 s13 (gb s11 5 ((((8 : Int32) * x1) + x3)).toNatClampNeg) r12 hr12) (cwx_S hB m_1205 kw_M_size ⟨by rw [hR]; decide, by rw [hR]; decide⟩ rfl rfl) hN hK hP hD hS hA rfl hl.1 rfl (Nat.le_of_ble_eq_true rfl) d_M_putInGroup_187 ⟨by rw [hR]; exact Nat.le_of_ble_eq_true rfl, by rw [hR]; exact Nat.le_of_ble_eq_true rfl⟩ (fun H locs hP hD hS => ?_)
                      refine lv_ldc2 (v := (1000000000000000 : Int64)) hx hb hown (hB _ m_1208) d_M_putInGroup_190 ?_
                      refine W.lcmp hx hb d_M_putInGroup_193 ?_
                      refine lv_if_le (tgt := 204) hx hb d_M_putInGroup_194 (by decide) (fun hc => ?_) (fun hc => ?_)
                      · replace h := it_t h hc
                        refine lv_iinc (v := (x3 + 1)) (lv' := [(3, .int (x3 + 1)), (0, .ref (a 0)), (1, .int x1), (2, .int x2)]) hx hb d_M_putInGroup_204 hl (k := 3) rfl rfl (by decide) rfl (fun ls hl => ?_)
                        refine lv_goto (tgt := 37) hx hb d_M_putInGroup_207 (by decide) ?_
                        exact ih37 s13 x1 x2 (x3 + 1) H locs ls hP hD hS (lv_sub hl [1, 2, 3, 0] rfl) h
                      · replace h := it_f h hc
                        refine lv_aload_n hx hb d_M_putInGroup_197 rfl (lv_at hl 0 rfl) ?_
                        refine lv_bipush (v := (-21 : Int32)) hx hb d_M_putInGroup_198 (by decide) ?_
                        obtain ⟨s14, es14, h⟩ := nm_some h
                        refine Mp_0_36 es14 hx hb hB hown (hB _ m_897) hK hP hD hS d_M_putInGroup_200 (fun H locs hP hD hS => ?_)
                        exact rf_V (w := (fun z => wM g ca a z ++ tl)) h hx hb hr hlk hK hP hD hS d_M_putInGroup_203
                  refine lv_icmp_eq (tgt := 147) hx hb d_M_putInGroup_138 (by decide) (fun hc => ?_) (fun hc => ?_)
                  · replace h := it_t h hc
                    exact L147 s8 x1 x2 x3 H locs ls hP hD hS (lv_sub hl [1, 2, 3, 4] rfl) h
                  · replace h := it_f h hc
                    refine lv_iload hx hb d_M_putInGroup_141 (lv_at hl 0 rfl) ?_
                    refine lv_iconst (v := (5 : Int32)) hx hb d_M_putInGroup_143 (by decide) ?_
                    refine lv_icmp_ne (tgt := 204) hx hb d_M_putInGroup_144 (by decide) (fun hc => ?_) (fun hc => ?_)
                    · replace h := it_f h hc
                      refine lv_iinc (v := (x3 + 1)) (lv' := [(3, .int (x3 + 1)), (4, .int ((ga σ 3 ((ga σ 10 (x3).toNatClampNeg)).toNatClampNeg) - (30 : Int32))), (0, .ref (a 0)), (1, .int x1), (2, .int x2)]) hx hb d_M_putInGroup_204 hl (k := 4) rfl rfl (by decide) rfl (fun ls hl => ?_)
                      refine lv_goto (tgt := 37) hx hb d_M_putInGroup_207 (by decide) ?_
                      exact ih37 s8 x1 x2 (x3 + 1) H locs ls hP hD hS (lv_sub hl [2, 3, 4, 0] rfl) h
                    · replace h := it_t h hc
                      exact L147 s8 x1 x2 x3 H locs ls hP hD hS (lv_sub hl [1, 2, 3, 4] rfl) h
                · replace h := it_f h hc
                  exact rf_V (w := (fun z => wM g ca a z ++ tl)) h hx hb hr hlk hK hP hD hS d_M_putInGroup_100
              · replace h := it_t h hc
                refine lv_goto (tgt := 204) hx hb d_M_putInGroup_75 (by decide) ?_
                refine lv_iinc (v := (x3 + 1)) (lv' := [(3, .int (x3 + 1)), (4, .int ((ga σ 3 ((ga σ 10 (x3).toNatClampNeg)).toNatClampNeg) - (30 : Int32))), (0, .ref (a 0)), (1, .int x1), (2, .int x2)]) hx hb d_M_putInGroup_204 hl (k := 4) rfl rfl (by decide) rfl (fun ls hl => ?_)
                refine lv_goto (tgt := 37) hx hb d_M_putInGroup_207 (by decide) ?_
                exact ih37 σ x1 x2 (x3 + 1) H locs ls hP hD hS (lv_sub hl [2, 3, 4, 0] rfl) h
    refine lv_istore_n (lv' := [(3, .int (0 : Int32)), (2, .int (gi s2 16)), (1, .int r1), (0, .ref (a 0))]) hx hb d_M_putInGroup_36 rfl hl (by decide) rfl (fun ls hl => ?_)
    exact L37 N s4 r1 (gi s2 16) (0 : Int32) H locs ls hP hD hS (lv_sub hl [3, 2, 1, 0] rfl) h
  · replace h := it_f h hc
    exact rf_V (w := (fun z => wM g ca a z ++ tl)) h hx hb hr hlk hK hP hD hS d_M_putInGroup_12
set_option maxRecDepth 100000 in
set_option maxHeartbeats 4000000 in
theorem c_M_isTrue (l : Launch) (D : va_G) (ca : Nat → ClassId) (g : Bool) (a : Nat → Nat) (tl : va_W) (N : Nat) (σ σ' : St) (x1 : Int32) (r : Int32) (h : f_M_isTrue N σ x1 = some (r, σ')) : CtI l y_M_isTrue ws_M_isTrue rm_M_isTrue 0 0 D vCl (tyM ca) nwM [.ref (a 0), .int x1] (wM g ca a σ ++ tl) (wM g ca a σ' ++ tl) r := by
  refine en_Z (ws' := BIG) (by decide +kernel) rfl (Nat.le_of_ble_eq_true rfl) ?_
  intro p e s m below meth c A ls R args H locs hR hx hb hr hlk hml hown hB hK hN hP hD hA hS hl
  have hl : lv_has ls 2 [(0, .ref (a 0)), (1, .int x1)] := hl
  unfold f_M_isTrue at h
  refine lv_aload_n hx hb d_M_isTrue_0 rfl (lv_at hl 0 rfl) ?_
  refine lv_iload_n hx hb d_M_isTrue_1 rfl (lv_at hl 1 rfl) ?_
  obtain ⟨r1, s2, hr1, h⟩ := bd_some h
  cases r1
  refine go_VV (rest := []) ⟨hx, hb, hml, hown, hB⟩ nwM_ok (c_M_workOut l D ca g a tl N σ s2 x1 hr1) (cwx_V hB m_1166 kw_M_workOut ⟨by rw [hR]; decide, by rw [hR]; decide⟩ rfl rfl) (va_recv hK hP (ci := 1) (q0 := 0) rfl rfl) hN hK hP hD hS hA rfl hl.1 rfl (Nat.le_of_ble_eq_true rfl) d_M_isTrue_2 ⟨by rw [hR]; exact Nat.le_of_ble_eq_true rfl, by rw [hR]; exact Nat.le_of_ble_eq_true rfl⟩ (fun H locs hP hD hS => ?_)
  refine lv_aload_n hx hb d_M_isTrue_5 rfl (lv_at hl 0 rfl) ?_
  refine Mg_0_36 hx hb hB hown (hB _ m_897) hK hP d_M_isTrue_6 ?_
  refine lv_if_ne (tgt := 27) hx hb d_M_isTrue_9 (by decide) (fun hc => ?_) (fun hc => ?_)
  · replace h := it_f h hc
    refine lv_iconst (v := (0 : Int32)) hx hb d_M_isTrue_27 (by decide) ?_
    exact rf_Z (w := (fun z => wM g ca a z ++ tl)) h hx hb hr hlk hK hP hD hS rfl d_M_isTrue_28
  · replace h := it_t h hc
    refine lv_aload_n hx hb d_M_isTrue_12 rfl (lv_at hl 0 rfl) ?_
    refine Mg_0_53 hx hb hB hown (hB _ m_914) hK hP d_M_isTrue_13 ?_
    refine lv_iconst (v := (0 : Int32)) hx hb d_M_isTrue_16 (by decide) ?_
    obtain ⟨hi, h⟩ := ckb_some h
    refine Ma_33 hx hb hK hP hi d_M_isTrue_17 ?_
    refine lv_lconst (v := (1 : Int64)) hx hb d_M_isTrue_18 (by decide) ?_
    refine W.lcmp hx hb d_M_isTrue_19 ?_
    refine lv_if_ne (tgt := 27) hx hb d_M_isTrue_20 (by decide) (fun hc => ?_) (fun hc => ?_)
    · replace h := it_f h hc
      refine lv_iconst (v := (0 : Int32)) hx hb d_M_isTrue_27 (by decide) ?_
      exact rf_Z (w := (fun z => wM g ca a z ++ tl)) h hx hb hr hlk hK hP hD hS rfl d_M_isTrue_28
    · replace h := it_t h hc
      refine lv_iconst (v := (1 : Int32)) hx hb d_M_isTrue_23 (by decide) ?_
      refine lv_goto (tgt := 28) hx hb d_M_isTrue_24 (by decide) ?_
      exact rf_Z (w := (fun z => wM g ca a z ++ tl)) h hx hb hr hlk hK hP hD hS rfl d_M_isTrue_28
set_option maxRecDepth 100000 in
set_option maxHeartbeats 4000000 in
theorem c_M_goTogether (l : Launch) (D : va_G) (ca : Nat → ClassId) (g : Bool) (a : Nat → Nat) (tl : va_W) (N : Nat) (σ σ' : St) (h : f_M_goTogether N σ = some ((), σ')) : CtV l y_M_goTogether ws_M_goTogether rm_M_goTogether 0 0 D vCl (tyM ca) nwM [.ref (a 0)] (wM g ca a σ ++ tl) (wM g ca a σ' ++ tl) := by
  refine en_V (ws' := BIG) (by decide +kernel) rfl (Nat.le_of_ble_eq_true rfl) ?_
  intro p e s m below meth c A ls R args H locs hR hx hb hr hlk hml hown hB hK hN hP hD hA hS hl
  have hl : lv_has ls 1 [(0, .ref (a 0))] := hl
  unfold f_M_goTogether at h
  refine lv_aload_n hx hb d_M_goTogether_0 rfl (lv_at hl 0 rfl) ?_
  refine Mg_0_36 hx hb hB hown (hB _ m_897) hK hP d_M_goTogether_1 ?_
  refine lv_if_ne (tgt := 32) hx hb d_M_goTogether_4 (by decide) (fun hc => ?_) (fun hc => ?_)
  · replace h := it_f h hc
    exact rf_V (w := (fun z => wM g ca a z ++ tl)) h hx hb hr hlk hK hP hD hS d_M_goTogether_32
  · replace h := it_t h hc
    refine lv_aload_n hx hb d_M_goTogether_7 rfl (lv_at hl 0 rfl) ?_
    refine Mg_0_20 hx hb hB hown (hB _ m_881) hK hP d_M_goTogether_8 ?_
    have L25 : ∀ (σ : St) (H : Heap) (locs : List Loc) (ls : Array Slot), va_P D vCl (wM g ca a σ ++ tl) H → va_D A (wM g ca a σ ++ tl) → va_S A s.heap H locs → lv_has ls 1 [(0, .ref (a 0))] → f_M_goTogether_25 N σ = some ((), σ') → W p l e R s m args below meth c H locs 0 0 (MQ below (qb_QV D vCl (tyM ca) (wM g ca a σ' ++ tl) A) args s 0 0 A) (F0 m 25 ls []) := by
      intro σ H locs ls hP hD hS hl h
      unfold f_M_goTogether_25 at h
      refine lv_aload_n hx hb d_M_goTogether_25 rfl (lv_at hl 0 rfl) ?_
      refine Mg_0_36 hx hb hB hown (hB _ m_897) hK hP d_M_goTogether_26 ?_
      refine lv_if_eq (tgt := 33) hx hb d_M_goTogether_29 (by decide) (fun hc => ?_) (fun hc => ?_)
      · replace h := it_t h hc
        refine lv_aload_n hx hb d_M_goTogether_33 rfl (lv_at hl 0 rfl) ?_
        refine Mg_0_37 hx hb hB hown (hB _ m_898) hK hP d_M_goTogether_34 ?_
        refine lv_if_eq (tgt := 47) hx hb d_M_goTogether_37 (by decide) (fun hc => ?_) (fun hc => ?_)
        · replace h := it_t h hc
          refine lv_aload_n hx hb d_M_goTogether_47 rfl (lv_at hl 0 rfl) ?_
          obtain ⟨r1, s2, hr1, h⟩ := bd_some h
          cases r1
          refine go_VV (rest := []) ⟨hx, hb, hml, hown, hB⟩ nwM_ok (c_M_giveRow l D ca g a tl N σ s2 hr1) (cwx_V hB m_1217 kw_M_giveRow ⟨by rw [hR]; decide, by rw [hR]; decide⟩ rfl rfl) (va_recv hK hP (ci := 1) (q0 := 0) rfl rfl) hN hK hP hD hS hA rfl hl.1 rfl (Nat.le_of_ble_eq_true rfl) d_M_goTogether_48 ⟨by rw [hR]; exact Nat.le_of_ble_eq_true rfl, by rw [hR]; exact Nat.le_of_ble_eq_true rfl⟩ (fun H locs hP hD hS => ?_)
          exact rf_V (w := (fun z => wM g ca a z ++ tl)) h hx hb hr hlk hK hP hD hS d_M_goTogether_51
        · replace h := it_f h hc
          refine lv_aload_n hx hb d_M_goTogether_40 rfl (lv_at hl 0 rfl) ?_
          obtain ⟨r3, s4, hr3, h⟩ := bd_some h
          cases r3
          refine go_VV (rest := []) ⟨hx, hb, hml, hown, hB⟩ nwM_ok (c_M_putInGroup l D ca g a tl N σ s4 hr3) (cwx_V hB m_1209 kw_M_putInGroup ⟨by rw [hR]; decide, by rw [hR]; decide⟩ rfl rfl) (va_recv hK hP (ci := 1) (q0 := 0) rfl rfl) hN hK hP hD hS hA rfl hl.1 rfl (Nat.le_of_ble_eq_true rfl) d_M_goTogether_41 ⟨by rw [hR]; exact Nat.le_of_ble_eq_true rfl, by rw [hR]; exact Nat.le_of_ble_eq_true rfl⟩ (fun H locs hP hD hS => ?_)
          refine lv_goto (tgt := 51) hx hb d_M_goTogether_44 (by decide) ?_
          exact rf_V (w := (fun z => wM g ca a z ++ tl)) h hx hb hr hlk hK hP hD hS d_M_goTogether_51
      · replace h := it_f h hc
        exact rf_V (w := (fun z => wM g ca a z ++ tl)) h hx hb hr hlk hK hP hD hS d_M_goTogether_32
    refine lv_if_lt (tgt := 25) hx hb d_M_goTogether_11 (by decide) (fun hc => ?_) (fun hc => ?_)
    · replace h := it_t h hc
      exact L25 σ H locs ls hP hD hS (lv_sub hl [0] rfl) h
    · replace h := it_f h hc
      refine lv_aload_n hx hb d_M_goTogether_14 rfl (lv_at hl 0 rfl) ?_
      refine lv_aload_n hx hb d_M_goTogether_15 rfl (lv_at hl 0 rfl) ?_
      refine Mg_0_20 hx hb hB hown (hB _ m_881) hK hP d_M_goTogether_16 ?_
      obtain ⟨r5, s6, hr5, h⟩ := bd_some h
      refine go_VI (rest := []) ⟨hx, hb, hml, hown, hB⟩ nwM_ok (c_M_isTrue l D ca g a tl N σ s6 (gi σ 4) r5 hr5) (cwx_V hB m_1162 kw_M_isTrue ⟨by rw [hR]; decide, by rw [hR]; decide⟩ rfl rfl) (va_recv hK hP (ci := 1) (q0 := 0) rfl rfl) hN hK hP hD hS hA rfl hl.1 rfl (Nat.le_of_ble_eq_true rfl) d_M_goTogether_19 ⟨by rw [hR]; exact Nat.le_of_ble_eq_true rfl, by rw [hR]; exact Nat.le_of_ble_eq_true rfl⟩ (fun H locs hP hD hS => ?_)
      refine lv_if_eq (tgt := 32) hx hb d_M_goTogether_22 (by decide) (fun hc => ?_) (fun hc => ?_)
      · replace h := it_t h hc
        exact rf_V (w := (fun z => wM g ca a z ++ tl)) h hx hb hr hlk hK hP hD hS d_M_goTogether_32
      · replace h := it_f h hc
        exact L25 s6 H locs ls hP hD hS (lv_sub hl [0] rfl) h
set_option maxRecDepth 100000 in
set_option maxHeartbeats 4000000 in
theorem c_M_goes (l : Launch) (D : va_G) (ca : Nat → ClassId) (g : Bool) (a : Nat → Nat) (tl : va_W) (N : Nat) (σ σ' : St) (x1 : Int32) (r : Int32) (h : f_M_goes N σ x1 = some (r, σ')) : CtI l y_M_goes ws_M_goes rm_M_goes 0 0 D vCl (tyM ca) nwM [.ref (a 0), .int x1] (wM g ca a σ ++ tl) (wM g ca a σ' ++ tl) r := by
  refine en_Z (ws' := BIG) (by decide +kernel) rfl (Nat.le_of_ble_eq_true rfl) ?_
  intro p e s m below meth c A ls R args H locs hR hx hb hr hlk hml hown hB hK hN hP hD hA hS hl
  have hl : lv_has ls 2 [(0, .ref (a 0)), (1, .int x1)] := hl
  unfold f_M_goes at h
  refine lv_aload_n hx hb d_M_goes_0 rfl (lv_at hl 0 rfl) ?_
  refine Mg_0_18 hx hb hB hown (hB _ m_879) hK hP d_M_goes_1 ?_
  refine lv_iload_n hx hb d_M_goes_4 rfl (lv_at hl 1 rfl) ?_
  obtain ⟨hi, h⟩ := ckb_some h
  refine Ma_15 hx hb hK hP hi d_M_goes_5 ?_
  refine lv_if_eq (tgt := 22) hx hb d_M_goes_6 (by decide) (fun hc => ?_) (fun hc => ?_)
  · replace h := it_t h hc
    refine lv_iconst (v := (1 : Int32)) hx hb d_M_goes_22 (by decide) ?_
    refine lv_goto (tgt := 27) hx hb d_M_goes_23 (by decide) ?_
    exact rf_Z (w := (fun z => wM g ca a z ++ tl)) h hx hb hr hlk hK hP hD hS rfl d_M_goes_27
  · replace h := it_f h hc
    refine lv_aload_n hx hb d_M_goes_9 rfl (lv_at hl 0 rfl) ?_
    refine lv_aload_n hx hb d_M_goes_10 rfl (lv_at hl 0 rfl) ?_
    refine Mg_0_19 hx hb hB hown (hB _ m_880) hK hP d_M_goes_11 ?_
    refine lv_iload_n hx hb d_M_goes_14 rfl (lv_at hl 1 rfl) ?_
    obtain ⟨hi, h⟩ := ckb_some h
    refine Ma_16 hx hb hK hP hi d_M_goes_15 ?_
    obtain ⟨r1, s2, hr1, h⟩ := bd_some h
    refine go_VI (rest := []) ⟨hx, hb, hml, hown, hB⟩ nwM_ok (c_M_isTrue l D ca g a tl N σ s2 (ga σ 13 (x1).toNatClampNeg) r1 hr1) (cwx_V hB m_1162 kw_M_isTrue ⟨by rw [hR]; decide, by rw [hR]; decide⟩ rfl rfl) (va_recv hK hP (ci := 1) (q0 := 0) rfl rfl) hN hK hP hD hS hA rfl hl.1 rfl (Nat.le_of_ble_eq_true rfl) d_M_goes_16 ⟨by rw [hR]; exact Nat.le_of_ble_eq_true rfl, by rw [hR]; exact Nat.le_of_ble_eq_true rfl⟩ (fun H locs hP hD hS => ?_)
    refine lv_if_eq (tgt := 26) hx hb d_M_goes_19 (by decide) (fun hc => ?_) (fun hc => ?_)
    · replace h := it_t h hc
      refine lv_iconst (v := (0 : Int32)) hx hb d_M_goes_26 (by decide) ?_
      exact rf_Z (w := (fun z => wM g ca a z ++ tl)) h hx hb hr hlk hK hP hD hS rfl d_M_goes_27
    · replace h := it_f h hc
      refine lv_iconst (v := (1 : Int32)) hx hb d_M_goes_22 (by decide) ?_
      refine lv_goto (tgt := 27) hx hb d_M_goes_23 (by decide) ?_
      exact rf_Z (w := (fun z => wM g ca a z ++ tl)) h hx hb hr hlk hK hP hD hS rfl d_M_goes_27
