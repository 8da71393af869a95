def Owed (N : Nat) (Inv : Bool → St → St → Prop) : Prop :=
  (∀ (g : Bool) (σ ρ : St) (x1 : Int32), Inv g σ ρ → ∃ (r : Int32) (σ' ρ' : St), f_Q_table N σ x1 = some (r, σ') ∧ f_M_table N ρ x1 = some (r, ρ') ∧ Inv g σ' ρ') ∧
  (∀ (g : Bool) (σ ρ : St) (x1 : Int32) (x2 : Int64) (x4 : Int64) (x6 : Int64) (x8 : Int64) (x10 : Int32), Inv g σ ρ → ∃ (r : Int32) (σ' ρ' : St), f_Q_insert N σ x1 x2 x4 x6 x8 x10 = some (r, σ') ∧ f_M_insert N ρ x1 x2 x4 x6 x8 x10 = some (r, ρ') ∧ Inv g σ' ρ') ∧
  (∀ (g : Bool) (σ ρ : St), Inv g σ ρ → ∃ (r : Int32) (σ' ρ' : St), f_Q_fresh N σ = some (r, σ') ∧ f_M_fresh N ρ = some (r, ρ') ∧ Inv g σ' ρ') ∧
  (∀ (g : Bool) (σ ρ : St) (x1 : Int64) (x3 : Int32), (x3 = 0 ∨ x3 = 1) → Inv g σ ρ → ∃ (r : Int32) (σ' ρ' : St), f_Q_constant N σ x1 x3 = some (r, σ') ∧ f_M_constant N ρ x1 x3 = some (r, ρ') ∧ Inv g σ' ρ') ∧
  (∀ (g : Bool) (σ ρ : St) (x1 : Int32) (x2 : Int32), Inv g σ ρ → ∃ (r : Int32) (σ' ρ' : St), f_Q_column N σ x1 x2 = some (r, σ') ∧ f_M_column N ρ x1 x2 = some (r, ρ') ∧ Inv g σ' ρ') ∧
  (∀ (g : Bool) (σ ρ : St) (x1 : Int32) (x2 : Int32) (x3 : Int32), Inv g σ ρ → ∃ (r : Int32) (σ' ρ' : St), f_Q_op N σ x1 x2 x3 = some (r, σ') ∧ f_M_op N ρ x1 x2 x3 = some (r, ρ') ∧ Inv g σ' ρ') ∧
  (∀ (g : Bool) (σ ρ : St) (x1 : Int32) (x2 : Int32) (x3 : Int32), (x3 = 0 ∨ x3 = 1) → Inv g σ ρ → ∃ (r : Int32) (σ' ρ' : St), f_Q_aggregate N σ x1 x2 x3 = some (r, σ') ∧ f_M_aggregate N ρ x1 x2 x3 = some (r, ρ') ∧ Inv g σ' ρ') ∧
  (∀ (g : Bool) (σ ρ : St) (x1 : Int32) (x2 : Int32) (x3 : Int32), Inv g σ ρ → ∃ (r : Int32) (σ' ρ' : St), f_Q_source N σ x1 x2 x3 = some (r, σ') ∧ f_M_source N ρ x1 x2 x3 = some (r, ρ') ∧ Inv g σ' ρ') ∧
  (∀ (g : Bool) (σ ρ : St) (x1 : Int32) (x2 : Int32), Inv g σ ρ → ∃ (r : Int32) (σ' ρ' : St), f_Q_condition N σ x1 x2 = some (r, σ') ∧ f_M_condition N ρ x1 x2 = some (r, ρ') ∧ Inv g σ' ρ') ∧
  (∀ (g : Bool) (σ ρ : St) (x1 : Int32), Inv g σ ρ → ∃ (r : Int32) (σ' ρ' : St), f_Q_group N σ x1 = some (r, σ') ∧ f_M_group N ρ x1 = some (r, ρ') ∧ Inv g σ' ρ') ∧
  (∀ (g : Bool) (σ ρ : St) (x1 : Int32), Inv g σ ρ → ∃ (r : Int32) (σ' ρ' : St), f_Q_item N σ x1 = some (r, σ') ∧ f_M_item N ρ x1 = some (r, ρ') ∧ Inv g σ' ρ') ∧
  (∀ (g : Bool) (σ ρ : St) (x1 : Int32) (x2 : Int32), (x2 = 0 ∨ x2 = 1) → Inv g σ ρ → ∃ (r : Int32) (σ' ρ' : St), f_Q_order N σ x1 x2 = some (r, σ') ∧ f_M_order N ρ x1 x2 = some (r, ρ') ∧ Inv g σ' ρ') ∧
  (∀ (g : Bool) (σ ρ : St) (x1 : Int32) (x2 : Int32) (x3 : Int32), (x1 = 0 ∨ x1 = 1) → Inv g σ ρ → ∃ (r : Int32) (σ' ρ' : St), f_Q_shape N σ x1 x2 x3 = some (r, σ') ∧ f_M_shape N ρ x1 x2 x3 = some (r, ρ') ∧ Inv g σ' ρ') ∧
  (∀ (g : Bool) (σ ρ : St), Inv g σ ρ → ∃ (r : Int32) (g' : Bool) (σ' ρ' : St), f_Q_run N g σ = some (r, g', σ') ∧ f_M_run N ρ = some (r, ρ') ∧ Inv g' σ' ρ') ∧
  (∀ (g : Bool) (σ ρ : St) (x1 : Int32) (x2 : Int32), Inv g σ ρ → ∃ (r : Int64) (σ' ρ' : St), f_Q_cell N σ x1 x2 = some (r, σ') ∧ f_M_cell N ρ x1 x2 = some (r, ρ') ∧ Inv g σ' ρ') ∧
  (∀ (g : Bool) (σ ρ : St) (x1 : Int32) (x2 : Int32), Inv g σ ρ → ∃ (r : Int32) (σ' ρ' : St), f_Q_isNull N σ x1 x2 = some (r, σ') ∧ f_M_isNull N ρ x1 x2 = some (r, ρ') ∧ Inv g σ' ρ') ∧
  (∀ (g : Bool) (σ ρ : St) (x1 : Int32), Inv g σ ρ → ∃ (r : Int32) (σ' ρ' : St), f_Q_answer N σ x1 = some (r, σ') ∧ f_M_answer N ρ x1 = some (r, ρ') ∧ Inv g σ' ρ')
theorem lw_out {j L : Nat} (h : L < 11 * j + 11) (hj : 11 * j ≤ 5632) (hL : L ≤ 5632) : Int32.ofNat L - 11 < nI (11 * j) := by
  rw [Int32.lt_iff_toInt_lt]
  have e1 : (Int32.ofNat L - 11).toInt = (L : Int) - 11 := pk_sub_toInt (a := L) (b := 11) (by omega) (by omega)
  rw [e1, nI_toInt (by omega)]
  omega
theorem lw_stay {j L : Nat} (h : 11 * j + 11 ≤ L) (hj : 11 * j ≤ 5632) (hL : L ≤ 5632) : ¬ Int32.ofNat L - 11 < nI (11 * j) := by
  rw [Int32.lt_iff_toInt_lt]
  have e1 : (Int32.ofNat L - 11).toInt = (L : Int) - 11 := pk_sub_toInt (a := L) (b := 11) (by omega) (by omega)
  rw [e1, nI_toInt (by omega)]
  omega
theorem lw_next (j : Nat) : nI (11 * j) + Int32.ofInt 11 = nI (11 * (j + 1)) := by
  have e : nI (11 * j) + nI 11 = nI (11 * j + 11) := nI_add _ _
  exact e
def sg (g : Bool) : Nat := if g then 17422 else 0
theorem sg_le (g : Bool) : sg g ≤ 17422 := by cases g <;> decide
theorem bz01 (x : Int32) : bz x = 0 ∨ bz x = 1 := by unfold bz; split <;> simp
theorem lw_in {j L : Nat} (h : 11 * j + 11 ≤ L) (hL : L ≤ 5632) (k : Nat) (hk : k ≤ 10) : vp_in (nI (11 * j) + Int32.ofNat k) L := by
  have e : nI (11 * j) + Int32.ofNat k = nI (11 * j + k) := nI_add _ _
  rw [e]
  exact vp_in_nI (by omega) (by omega)
set_option maxRecDepth 100000 in
set_option maxHeartbeats 4000000 in
theorem law_loop {p : Program} {e : Env} {s : State} {m : MethodId} {below : List Frame} {meth : Method} {c : Code} (l : Launch) {b L : Nat} {xs : Nat → Int32} (hL : L ≤ 5632) (C0 : lw_At p s m meth c b L xs) (D : va_G) (ca : Nat → ClassId) (a2 : Nat → Nat) (N : Nat) (hK : va_K D vCl (tyA ca) s) (hN : ∀ w ∈ nwX, va_Nw w s) (Inv : Bool → St → St → Prop) (HO : Owed N Inv) : ∀ (n j : Nat) (g : Bool) (a : Nat → Nat) (σ ρ : St) (H : Heap) (locs : List Loc) (ls : Array Slot), L < 11 * (j + n) + 11 → 11 * j ≤ 5632 → Inv g σ ρ → va_P D vCl (wX g ca a σ ++ wM false ca a2 ρ) H → va_D (fun q : Nat => s.heap.size ≤ q) (wX g ca a σ ++ wM false ca a2 ρ) → va_S (fun q : Nat => s.heap.size ≤ q) s.heap H locs → lv_has ls 4 [(0, .ref b), (1, .ref (a 0)), (2, .ref (a2 0)), (3, .int (nI (11 * j)))] → W p l e room_1 s m #[Value.ref b] below meth c H locs (100 + 12 * j) (60000 + 100 * j + sg g) (lw_Z below #[Value.ref b] s) (F0 m 18 ls []) := by
  obtain ⟨hx, hb, hr, hml, hown, hts, hX, hbl, hlocks, hgv⟩ := id C0
  have hbA : ¬ (fun q : Nat => s.heap.size ≤ q) b := Nat.not_le.mpr hbl
  intro n
  induction n with
  | zero =>
    intro j g a σ ρ H locs ls hn hj hI hP hD hS hl
    have hsg := sg_le g
    refine lv_iload_n hx hb d_law_18 rfl (lv_at hl 3 rfl) ?_
    refine lv_aload_n hx hb d_law_19 rfl (lv_at hl 0 rfl) ?_
    refine va_slen hx hb hX hbl hbA hS d_law_20 ?_
    refine lv_bipush (v := 11) hx hb d_law_21 (by decide) ?_
    refine lv_isub hx hb d_law_23 ?_
    refine lv_icmp_gt (tgt := 908) hx hb d_law_24 (by decide) (fun hc => ?_) (fun hc => absurd (lw_out (by omega) hj hL) hc)
    refine lv_iconst (v := 1) hx hb d_law_908 (by decide) ?_
    refine va_forget (fun q hq => hS.2.2 q hq) ?_
    refine W.widen (k := 600000) (n := 7302250) (by omega) (by omega) ?_
    exact lw_ret hx hb hr hlocks d_law_909
  | succ n ih =>
    intro j g a σ ρ H locs ls hn hj hI hP hD hS hl
    have hsg := sg_le g
    refine lv_iload_n hx hb d_law_18 rfl (lv_at hl 3 rfl) ?_
    refine lv_aload_n hx hb d_law_19 rfl (lv_at hl 0 rfl) ?_
    refine va_slen hx hb hX hbl hbA hS d_law_20 ?_
    refine lv_bipush (v := 11) hx hb d_law_21 (by decide) ?_
    refine lv_isub hx hb d_law_23 ?_
    by_cases hout : L < 11 * j + 11
    · refine lv_icmp_gt (tgt := 908) hx hb d_law_24 (by decide) (fun hc => ?_) (fun hc => absurd (lw_out (by omega) hj hL) hc)
      refine lv_iconst (v := 1) hx hb d_law_908 (by decide) ?_
      refine va_forget (fun q hq => hS.2.2 q hq) ?_
      refine W.widen (k := 600000) (n := 7302250) (by omega) (by omega) ?_
      exact lw_ret hx hb hr hlocks d_law_909
    · have hin := lw_in (j := j) (L := L) (by omega) hL
      refine lv_icmp_gt (tgt := 908) hx hb d_law_24 (by decide) (fun hc => absurd hc (lw_stay (by omega) hj hL)) (fun hc => ?_)
      have nx : ∀ (g : Bool) (a : Nat → Nat) (σ ρ : St) (H : Heap) (locs : List Loc), Inv g σ ρ → va_P D vCl (wX g ca a σ ++ wM false ca a2 ρ) H → va_D (fun q : Nat => s.heap.size ≤ q) (wX g ca a σ ++ wM false ca a2 ρ) → va_S (fun q : Nat => s.heap.size ≤ q) s.heap H locs → lv_has ls 4 [(0, .ref b), (1, .ref (a 0)), (2, .ref (a2 0)), (3, .int (nI (11 * j)))] → W p l e room_1 s m #[Value.ref b] below meth c H locs (100 + 12 * j + 12) (60000 + 100 * j + sg g + 100) (lw_Z below #[Value.ref b] s) (F0 m 902 ls []) := by
        intro g a σ ρ H locs hI hP hD hS hl
        refine lv_iinc (v := nI (11 * (j + 1))) (lv' := [(3, .int (nI (11 * (j + 1)))), (0, .ref b), (1, .ref (a 0)), (2, .ref (a2 0))]) hx hb d_law_902 hl (k := 3) rfl (lw_next j) (by decide) rfl (fun ls hl => ?_)
        refine lv_goto (tgt := 18) hx hb d_law_905 (by decide) ?_
        refine W.widen (k := 100 + 12 * (j + 1)) (n := 60000 + 100 * (j + 1) + sg g) (by omega) (by omega) ?_
        exact ih (j + 1) g a σ ρ H locs ls (by omega) (by omega) hI hP hD hS (lv_sub hl [1, 2, 3, 0] rfl)
      refine lv_aload_n hx hb d_law_27 rfl (lv_at hl 0 rfl) ?_
      refine lv_iload_n hx hb d_law_28 rfl (lv_at hl 3 rfl) ?_
      refine va_sld hx hb hX hbl hbA hS (vp_in_nI (by omega) (by omega)) d_law_29 ?_
      refine lv_bipush (v := 31) hx hb d_law_30 (by decide) ?_
      refine lv_iand hx hb d_law_32 ?_
      generalize (xs (nI (11 * j)).toNatClampNeg) &&& 31 = y
      obtain ⟨o0, o1, o2, o3, o4, o5, o6, o7, o8, o9, o10, o11, o12, o13, o14, o15, o16⟩ := id HO
      by_cases c0 : y = 0
      · subst c0
        refine lv_tableIn (tgt := 116) hx hb d_law_33 (by decide) (by decide) rfl (by decide) ?_
        obtain ⟨r, σ', ρ', h1, h2, hI2⟩ := o0 g σ ρ (xs (nI (11 * j) + (1 : Int32)).toNatClampNeg) hI
        exact lc_Q_table l C0 D ca a a2 N hK hN (nI (11 * j)) hin g σ ρ σ' ρ' r h1 h2 hP hD hS hl (by omega) (by omega) (fun H locs hP hD hS => nx g a σ' ρ' H locs hI2 hP hD hS hl)
      by_cases c1 : y = 1
      · subst c1
        refine lv_tableIn (tgt := 139) hx hb d_law_33 (by decide) (by decide) rfl (by decide) ?_
        obtain ⟨r, σ', ρ', h1, h2, hI2⟩ := o1 g σ ρ (xs (nI (11 * j) + (1 : Int32)).toNatClampNeg) ((((xs (nI (11 * j) + (2 : Int32)).toNatClampNeg)).toInt64 <<< (((32 : Int32)).toInt64 &&& 63)) ||| (((xs (nI (11 * j) + (3 : Int32)).toNatClampNeg)).toInt64 &&& (4294967295 : Int64))) ((((xs (nI (11 * j) + (4 : Int32)).toNatClampNeg)).toInt64 <<< (((32 : Int32)).toInt64 &&& 63)) ||| (((xs (nI (11 * j) + (5 : Int32)).toNatClampNeg)).toInt64 &&& (4294967295 : Int64))) ((((xs (nI (11 * j) + (6 : Int32)).toNatClampNeg)).toInt64 <<< (((32 : Int32)).toInt64 &&& 63)) ||| (((xs (nI (11 * j) + (7 : Int32)).toNatClampNeg)).toInt64 &&& (4294967295 : Int64))) ((((xs (nI (11 * j) + (8 : Int32)).toNatClampNeg)).toInt64 <<< (((32 : Int32)).toInt64 &&& 63)) ||| (((xs (nI (11 * j) + (9 : Int32)).toNatClampNeg)).toInt64 &&& (4294967295 : Int64))) (xs (nI (11 * j) + (10 : Int32)).toNatClampNeg) hI
        exact lc_Q_insert l C0 D ca a a2 N hK hN (nI (11 * j)) hin g σ ρ σ' ρ' r h1 h2 hP hD hS hl (by omega) (by omega) (fun H locs hP hD hS => nx g a σ' ρ' H locs hI2 hP hD hS hl)
      by_cases c2 : y = 2
      · subst c2
        refine lv_tableIn (tgt := 342) hx hb d_law_33 (by decide) (by decide) rfl (by decide) ?_
        obtain ⟨r, σ', ρ', h1, h2, hI2⟩ := o2 g σ ρ hI
        exact lc_Q_fresh l C0 D ca a a2 N hK hN (nI (11 * j)) hin g σ ρ σ' ρ' r h1 h2 hP hD hS hl (by omega) (by omega) (fun H locs hP hD hS => nx g a σ' ρ' H locs hI2 hP hD hS hl)
      by_cases c3 : y = 3
      · subst c3
        refine lv_tableIn (tgt := 355) hx hb d_law_33 (by decide) (by decide) rfl (by decide) ?_
        obtain ⟨r, σ', ρ', h1, h2, hI2⟩ := o3 g σ ρ ((((xs (nI (11 * j) + (1 : Int32)).toNatClampNeg)).toInt64 <<< (((32 : Int32)).toInt64 &&& 63)) ||| (((xs (nI (11 * j) + (2 : Int32)).toNatClampNeg)).toInt64 &&& (4294967295 : Int64))) (bz (xs (nI (11 * j) + (3 : Int32)).toNatClampNeg)) (bz01 _) hI
        exact lc_Q_constant l C0 D ca a a2 N hK hN (nI (11 * j)) hin g σ ρ σ' ρ' r h1 h2 hP hD hS hl (by omega) (by omega) (fun H locs hP hD hS => nx g a σ' ρ' H locs hI2 hP hD hS hl)
      by_cases c4 : y = 4
      · subst c4
        refine lv_tableIn (tgt := 434) hx hb d_law_33 (by decide) (by decide) rfl (by decide) ?_
        obtain ⟨r, σ', ρ', h1, h2, hI2⟩ := o4 g σ ρ (xs (nI (11 * j) + (1 : Int32)).toNatClampNeg) (xs (nI (11 * j) + (2 : Int32)).toNatClampNeg) hI
        exact lc_Q_column l C0 D ca a a2 N hK hN (nI (11 * j)) hin g σ ρ σ' ρ' r h1 h2 hP hD hS hl (by omega) (by omega) (fun H locs hP hD hS => nx g a σ' ρ' H locs hI2 hP hD hS hl)
      by_cases c5 : y = 5
      · subst c5
        refine lv_tableIn (tgt := 467) hx hb d_law_33 (by decide) (by decide) rfl (by decide) ?_
        obtain ⟨r, σ', ρ', h1, h2, hI2⟩ := o5 g σ ρ (xs (nI (11 * j) + (1 : Int32)).toNatClampNeg) (xs (nI (11 * j) + (2 : Int32)).toNatClampNeg) (xs (nI (11 * j) + (3 : Int32)).toNatClampNeg) hI
        exact lc_Q_op l C0 D ca a a2 N hK hN (nI (11 * j)) hin g σ ρ σ' ρ' r h1 h2 hP hD hS hl (by omega) (by omega) (fun H locs hP hD hS => nx g a σ' ρ' H locs hI2 hP hD hS hl)
      by_cases c6 : y = 6
      · subst c6
        refine lv_tableIn (tgt := 510) hx hb d_law_33 (by decide) (by decide) rfl (by decide) ?_
        obtain ⟨r, σ', ρ', h1, h2, hI2⟩ := o6 g σ ρ (xs (nI (11 * j) + (1 : Int32)).toNatClampNeg) (xs (nI (11 * j) + (2 : Int32)).toNatClampNeg) (bz (xs (nI (11 * j) + (3 : Int32)).toNatClampNeg)) (bz01 _) hI
        exact lc_Q_aggregate l C0 D ca a a2 N hK hN (nI (11 * j)) hin g σ ρ σ' ρ' r h1 h2 hP hD hS hl (by omega) (by omega) (fun H locs hP hD hS => nx g a σ' ρ' H locs hI2 hP hD hS hl)
      by_cases c7 : y = 7
      · subst c7
        refine lv_tableIn (tgt := 569) hx hb d_law_33 (by decide) (by decide) rfl (by decide) ?_
        obtain ⟨r, σ', ρ', h1, h2, hI2⟩ := o7 g σ ρ (xs (nI (11 * j) + (1 : Int32)).toNatClampNeg) (xs (nI (11 * j) + (2 : Int32)).toNatClampNeg) (xs (nI (11 * j) + (3 : Int32)).toNatClampNeg) hI
        exact lc_Q_source l C0 D ca a a2 N hK hN (nI (11 * j)) hin g σ ρ σ' ρ' r h1 h2 hP hD hS hl (by omega) (by omega) (fun H locs hP hD hS => nx g a σ' ρ' H locs hI2 hP hD hS hl)
      by_cases c8 : y = 8
      · subst c8
        refine lv_tableIn (tgt := 612) hx hb d_law_33 (by decide) (by decide) rfl (by decide) ?_
        obtain ⟨r, σ', ρ', h1, h2, hI2⟩ := o8 g σ ρ (xs (nI (11 * j) + (1 : Int32)).toNatClampNeg) (xs (nI (11 * j) + (2 : Int32)).toNatClampNeg) hI
        exact lc_Q_condition l C0 D ca a a2 N hK hN (nI (11 * j)) hin g σ ρ σ' ρ' r h1 h2 hP hD hS hl (by omega) (by omega) (fun H locs hP hD hS => nx g a σ' ρ' H locs hI2 hP hD hS hl)
      by_cases c9 : y = 9
      · subst c9
        refine lv_tableIn (tgt := 645) hx hb d_law_33 (by decide) (by decide) rfl (by decide) ?_
        obtain ⟨r, σ', ρ', h1, h2, hI2⟩ := o9 g σ ρ (xs (nI (11 * j) + (1 : Int32)).toNatClampNeg) hI
        exact lc_Q_group l C0 D ca a a2 N hK hN (nI (11 * j)) hin g σ ρ σ' ρ' r h1 h2 hP hD hS hl (by omega) (by omega) (fun H locs hP hD hS => nx g a σ' ρ' H locs hI2 hP hD hS hl)
      by_cases c10 : y = 10
      · subst c10
        refine lv_tableIn (tgt := 668) hx hb d_law_33 (by decide) (by decide) rfl (by decide) ?_
        obtain ⟨r, σ', ρ', h1, h2, hI2⟩ := o10 g σ ρ (xs (nI (11 * j) + (1 : Int32)).toNatClampNeg) hI
        exact lc_Q_item l C0 D ca a a2 N hK hN (nI (11 * j)) hin g σ ρ σ' ρ' r h1 h2 hP hD hS hl (by omega) (by omega) (fun H locs hP hD hS => nx g a σ' ρ' H locs hI2 hP hD hS hl)
      by_cases c11 : y = 11
      · subst c11
        refine lv_tableIn (tgt := 691) hx hb d_law_33 (by decide) (by decide) rfl (by decide) ?_
        obtain ⟨r, σ', ρ', h1, h2, hI2⟩ := o11 g σ ρ (xs (nI (11 * j) + (1 : Int32)).toNatClampNeg) (bz (xs (nI (11 * j) + (2 : Int32)).toNatClampNeg)) (bz01 _) hI
        exact lc_Q_order l C0 D ca a a2 N hK hN (nI (11 * j)) hin g σ ρ σ' ρ' r h1 h2 hP hD hS hl (by omega) (by omega) (fun H locs hP hD hS => nx g a σ' ρ' H locs hI2 hP hD hS hl)
      by_cases c12 : y = 12
      · subst c12
        refine lv_tableIn (tgt := 740) hx hb d_law_33 (by decide) (by decide) rfl (by decide) ?_
        obtain ⟨r, σ', ρ', h1, h2, hI2⟩ := o12 g σ ρ (bz (xs (nI (11 * j) + (1 : Int32)).toNatClampNeg)) (xs (nI (11 * j) + (2 : Int32)).toNatClampNeg) (xs (nI (11 * j) + (3 : Int32)).toNatClampNeg) (bz01 _) hI
        exact lc_Q_shape l C0 D ca a a2 N hK hN (nI (11 * j)) hin g σ ρ σ' ρ' r h1 h2 hP hD hS hl (by omega) (by omega) (fun H locs hP hD hS => nx g a σ' ρ' H locs hI2 hP hD hS hl)
      by_cases c13 : y = 13
      · subst c13
        refine lv_tableIn (tgt := 799) hx hb d_law_33 (by decide) (by decide) rfl (by decide) ?_
        obtain ⟨r, g', σ', ρ', h1, h2, hI2⟩ := o13 g σ ρ hI
        obtain ⟨dl, hdl⟩ : ∃ d : Nat, d = if g' = g then 0 else 17422 := ⟨_, rfl⟩
        have e3 : sg g + dl = sg g' := by rw [hdl]; have := fl_run h1; revert this; cases g <;> cases g' <;> simp [sg]
        have hsg2 := sg_le g'
        exact lc_Q_run l C0 D ca a a2 N hK hN (nI (11 * j)) hin g σ ρ σ' ρ' g' r h1 h2 hP hD hS hl (by omega) dl hdl (by omega) (fun u H locs hP hD hS => by rw [show 60000 + 100 * j + sg g + (100 + dl) = 60000 + 100 * j + sg g' + 100 by omega]; exact nx g' (xa a u) σ' ρ' H locs hI2 hP hD hS hl)
      by_cases c14 : y = 14
      · subst c14
        refine lv_tableIn (tgt := 812) hx hb d_law_33 (by decide) (by decide) rfl (by decide) ?_
        obtain ⟨r, σ', ρ', h1, h2, hI2⟩ := o14 g σ ρ (xs (nI (11 * j) + (1 : Int32)).toNatClampNeg) (xs (nI (11 * j) + (2 : Int32)).toNatClampNeg) hI
        exact lc_Q_cell l C0 D ca a a2 N hK hN (nI (11 * j)) hin g σ ρ σ' ρ' r h1 h2 hP hD hS hl (by omega) (by omega) (fun H locs hP hD hS => nx g a σ' ρ' H locs hI2 hP hD hS hl)
      by_cases c15 : y = 15
      · subst c15
        refine lv_tableIn (tgt := 846) hx hb d_law_33 (by decide) (by decide) rfl (by decide) ?_
        obtain ⟨r, σ', ρ', h1, h2, hI2⟩ := o15 g σ ρ (xs (nI (11 * j) + (1 : Int32)).toNatClampNeg) (xs (nI (11 * j) + (2 : Int32)).toNatClampNeg) hI
        exact lc_Q_isNull l C0 D ca a a2 N hK hN (nI (11 * j)) hin g σ ρ σ' ρ' r h1 h2 hP hD hS hl (by omega) (by omega) (fun H locs hP hD hS => nx g a σ' ρ' H locs hI2 hP hD hS hl)
      by_cases c16 : y = 16
      · subst c16
        refine lv_tableIn (tgt := 879) hx hb d_law_33 (by decide) (by decide) rfl (by decide) ?_
        obtain ⟨r, σ', ρ', h1, h2, hI2⟩ := o16 g σ ρ (xs (nI (11 * j) + (1 : Int32)).toNatClampNeg) hI
        exact lc_Q_answer l C0 D ca a a2 N hK hN (nI (11 * j)) hin g σ ρ σ' ρ' r h1 h2 hP hD hS hl (by omega) (by omega) (fun H locs hP hD hS => nx g a σ' ρ' H locs hI2 hP hD hS hl)
      have n0 := lv_neT c0 (show (0 : Int32).toInt = 0 by decide)
      have n1 := lv_neT c1 (show (1 : Int32).toInt = 1 by decide)
      have n2 := lv_neT c2 (show (2 : Int32).toInt = 2 by decide)
      have n3 := lv_neT c3 (show (3 : Int32).toInt = 3 by decide)
      have n4 := lv_neT c4 (show (4 : Int32).toInt = 4 by decide)
      have n5 := lv_neT c5 (show (5 : Int32).toInt = 5 by decide)
      have n6 := lv_neT c6 (show (6 : Int32).toInt = 6 by decide)
      have n7 := lv_neT c7 (show (7 : Int32).toInt = 7 by decide)
      have n8 := lv_neT c8 (show (8 : Int32).toInt = 8 by decide)
      have n9 := lv_neT c9 (show (9 : Int32).toInt = 9 by decide)
      have n10 := lv_neT c10 (show (10 : Int32).toInt = 10 by decide)
      have n11 := lv_neT c11 (show (11 : Int32).toInt = 11 by decide)
      have n12 := lv_neT c12 (show (12 : Int32).toInt = 12 by decide)
      have n13 := lv_neT c13 (show (13 : Int32).toInt = 13 by decide)
      have n14 := lv_neT c14 (show (14 : Int32).toInt = 14 by decide)
      have n15 := lv_neT c15 (show (15 : Int32).toInt = 15 by decide)
      have n16 := lv_neT c16 (show (16 : Int32).toInt = 16 by decide)
      refine lv_tableOut (tgt := 902) hx hb d_law_33 (by omega) (by decide) ?_
      refine W.widen (k := 100 + 12 * j + 12) (n := 60000 + 100 * j + sg g + 100) (by omega) (by omega) ?_
      exact nx g a σ ρ H locs hI hP hD hS hl
