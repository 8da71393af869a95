def sX0 : St := (fun r => if r = 4 then -1 else if r = 5 then -1 else if r = 10 then 1000 else 0, fun _ => 0, fun _ _ => 0, fun _ _ => 0)
def aX0 (h : Nat) (u : Nat → Nat) : Nat → Nat := fun k => (h :: (u 0) :: (u 1) :: (u 2) :: (u 3) :: (u 4) :: (u 5) :: (u 6) :: (u 7) :: (u 8) :: (u 9) :: (u 10) :: (u 11) :: (u 12) :: (u 13) :: (u 14) :: (u 15) :: (u 16) :: (u 17) :: (u 18) :: (u 19) :: (u 20) :: (u 21) :: (u 22) :: (u 23) :: (u 24) :: (u 25) :: (u 26) :: (u 27) :: (u 28) :: (u 29) :: (u 30) :: (u 31) :: (u 32) :: (u 33) :: [] : List Nat).getD k 0
def sM0 : St := (fun r => if r = 4 then -1 else if r = 5 then -1 else if r = 10 then 1000 else 0, fun _ => 0, fun _ _ => 0, fun _ _ => 0)
def aM0 (h : Nat) (u : Nat → Nat) : Nat → Nat := fun k => (h :: (u 0) :: (u 1) :: (u 2) :: (u 3) :: (u 4) :: (u 5) :: (u 6) :: (u 7) :: (u 8) :: (u 9) :: (u 10) :: (u 11) :: (u 12) :: (u 13) :: (u 14) :: (u 15) :: (u 16) :: (u 17) :: (u 18) :: (u 19) :: (u 20) :: (u 21) :: (u 22) :: (u 23) :: (u 24) :: (u 25) :: (u 26) :: (u 27) :: (u 28) :: (u 29) :: (u 30) :: (u 31) :: (u 32) :: (u 33) :: [] : List Nat).getD k 0
set_option maxRecDepth 100000 in
set_option maxHeartbeats 4000000 in
theorem st_XP {D : va_G} {ca : Nat → ClassId} {h : Nat} {u : Nat → Nat} {H : Heap} (hP : va_P D vCl (k_Q_init ca h u []) H) : va_P D vCl (wX false ca (aX0 h u) sX0) H := hP.sub [34, 29, 30, 31, 32, 33, 17, 18, 19, 20, 21, 22, 23, 24, 25, 26, 27, 28, 9, 10, 11, 12, 13, 14, 15, 16, 5, 6, 7, 8, 4, 2, 3, 0, 1] rfl
set_option maxRecDepth 100000 in
set_option maxHeartbeats 4000000 in
theorem st_XD {A : Nat → Prop} {ca : Nat → ClassId} {h : Nat} {u : Nat → Nat} (hD : va_D A (k_Q_init ca h u [])) : va_D A (wX false ca (aX0 h u) sX0) := hD.sub [34, 29, 30, 31, 32, 33, 17, 18, 19, 20, 21, 22, 23, 24, 25, 26, 27, 28, 9, 10, 11, 12, 13, 14, 15, 16, 5, 6, 7, 8, 4, 2, 3, 0, 1] (by decide) rfl
set_option maxRecDepth 100000 in
set_option maxHeartbeats 4000000 in
theorem st_M {ca : Nat → ClassId} {h : Nat} {u : Nat → Nat} {tl : va_W} : k_M_init ca h u tl = wM false ca (aM0 h u) sM0 ++ tl := rfl
set_option maxRecDepth 20000 in
theorem nwX_in : ∀ w ∈ nwX, w ∈ lw_tbl := by decide +kernel
set_option maxRecDepth 100000 in
set_option maxHeartbeats 4000000 in
theorem whole_open {p : Program} {e : Env} {s : State} {m : MethodId} {below : List Frame} {meth : Method} {c : Code} (l : Launch) (N : Nat) (Inv : Bool → St → St → Prop) (HO : Owed N Inv) (HI : Inv false sX0 sM0) {b L : Nat} {xs : Nat → Int32} (hL : L ≤ 5632) (C0 : lw_At p s m meth c b L xs) : W p l e room_1 s m #[Value.ref b] below meth c s.heap [] 0 0 (lw_Z below #[Value.ref b] s) (entryFrame m ([Value.ref b] : List Value).toArray 4) := by
  obtain ⟨hx, hb, hr, hml, hown, hts, hX, hbl, hlocks, hgv⟩ := id C0
  have hA : ∀ q : Nat, s.heap.size ≤ q → (fun q : Nat => s.heap.size ≤ q) q := fun _ h => h
  have hbA : ¬ (fun q : Nat => s.heap.size ≤ q) b := Nat.not_le.mpr hbl
  have hB : ∀ w ∈ BIG, w.before #[Value.ref b] s = true := fun w h => hts w (bg_out h)
  obtain ⟨c0, i0, hKn0⟩ := u_known (C := RX0) (T := TX0) (N := 5) (n := 5) hB inX0 (hB _ m_87)
  obtain ⟨c1, i1, hKn1⟩ := u_known (C := RX1) (T := TX1) (N := 55) (n := 55) hB inX1 (hB _ m_856)
  obtain ⟨c2, i2, hKn2⟩ := u_known (C := RX2) (T := TX2) (N := 7) (n := 7) hB inX2 (hB _ m_279)
  obtain ⟨c3, i3, hKn3⟩ := u_known (C := RX3) (T := TX3) (N := 4) (n := 4) hB inX3 (hB _ m_315)
  obtain ⟨c4, i4, hKn4⟩ := u_known (C := RX4) (T := TX4) (N := 7) (n := 7) hB inX4 (hB _ m_334)
  obtain ⟨c5, i5, hKn5⟩ := u_known (C := RX5) (T := TX5) (N := 13) (n := 13) hB inX5 (hB _ m_126)
  obtain ⟨c6, i6, hKn6⟩ := u_known (C := RX6) (T := TX6) (N := 14) (n := 14) hB inX6 (hB _ m_611)
  obtain ⟨c7, i7, hKn7⟩ := u_known (C := RX7) (T := TX7) (N := 16) (n := 16) hB inX7 (hB _ m_191)
  obtain ⟨c8, i8, hKn8⟩ := u_known (C := RX8) (T := TX8) (N := 8) (n := 8) hB inX8 (hB _ m_309)
  obtain ⟨c9, i9, hKn9⟩ := u_known (C := RX9) (T := TX9) (N := 5) (n := 5) hB inX9 (hB _ m_95)
  obtain ⟨dC, dI, hKc⟩ : ∃ (dC : Nat → ClassId) (dI : Nat → Nat → Nat), ∀ (k : Nat) (q : vw_C), vCl[k]? = some q → u_Kn s q.1 q.2.1 q.2.2 (dC k) (dI k) := by
    refine ⟨fun k => [c0, c1, c2, c3, c4, c5, c6, c7, c8, c9].getD k c0, fun k => [i0, i1, i2, i3, i4, i5, i6, i7, i8, i9].getD k i0, ?_⟩
    intro k q hq
    match k, hq with
    | 0, hq => cases hq; exact hKn0
    | 1, hq => cases hq; exact hKn1
    | 2, hq => cases hq; exact hKn2
    | 3, hq => cases hq; exact hKn3
    | 4, hq => cases hq; exact hKn4
    | 5, hq => cases hq; exact hKn5
    | 6, hq => cases hq; exact hKn6
    | 7, hq => cases hq; exact hKn7
    | 8, hq => cases hq; exact hKn8
    | 9, hq => cases hq; exact hKn9
    | k + 10, hq => simp [vCl] at hq
  obtain ⟨eI, kI, mI, hI1, hI2, hI3⟩ := Cond.arrayClass_spec (hB _ m_123)
  obtain ⟨eJ, kJ, mJ, hJ1, hJ2, hJ3⟩ := Cond.arrayClass_spec (hB _ m_124)
  obtain ⟨eZ, kZ, mZ, hZ1, hZ2, hZ3⟩ := Cond.arrayClass_spec (hB _ m_189)
  obtain ⟨ca, hca⟩ : ∃ ca : Nat → ClassId, ca = (fun k => [eI, eJ, eZ].getD k eI) := ⟨_, rfl⟩
  have hK : va_K (dC, dI) vCl (tyA ca) s := by
    refine ⟨hKc, ?_⟩
    intro k q hq
    subst hca
    match k, hq with
    | 0, hq => cases hq; exact ⟨fun n z => ⟨fun k h => (by cases h), kI, hI2, mI, hI3⟩, hI1⟩
    | 1, hq => cases hq; exact ⟨fun n z => ⟨fun k h => (by cases h), kJ, hJ2, mJ, hJ3⟩, hJ1⟩
    | 2, hq => cases hq; exact ⟨fun n z => ⟨fun k h => (by cases h), kZ, hZ2, mZ, hZ3⟩, hZ1⟩
    | k + 3, hq => simp [tyA] at hq
  have hN : ∀ w ∈ nwX, va_Nw w s := fun w h => va_Nw.of (nw_on nwX_ok h) (hts w (nwX_in w h))
  have hS : va_S (fun q : Nat => s.heap.size ≤ q) s.heap s.heap [] := va_S.rf
  have hP : va_P (dC, dI) vCl [] s.heap := fun k q h => by simp at h
  have hD : va_D (fun q : Nat => s.heap.size ≤ q) [] := ⟨fun i j p q h => by simp at h, fun k q h => by simp at h⟩
  have hl := lv_entry ([.ref b]) (n := 4) (Nat.le_of_ble_eq_true rfl)
  rw [lg_entry_eq]
  generalize (lg_sl ([.ref b]) ++ List.replicate (4 - (lg_sl ([.ref b])).length) Slot.unset).toArray = ls at hl ⊢
  have hl : lv_has ls 4 [(0, .ref b)] := hl
  refine va_new (ci := 0) (fs := [.null, .null, .null, .null, .null]) (C := RX0) (T := TX0) (N := 5) hx hb hB inX0 tyX0 tyX0_ok hown (hB _ m_86) (hB _ m_87) (hB _ m_73) hK hP hD hS hA rfl (fun j hj => by rcases (show j = 0 ∨ j = 1 ∨ j = 2 ∨ j = 3 ∨ j = 4 by omega) with rfl | rfl | rfl | rfl | rfl <;> rfl) (by decide) (by decide) d_law_0 (fun q0 H hP hD hS => ?_)
  replace hP := vP_front hP
  replace hD := vD_front hD
  refine lv_dup hx hb d_law_3 rfl ?_
  refine go_IE (rest := [.ref q0]) ⟨hx, hb, hml, hown, hB⟩ nwX_ok (c_Q_init l (dC, dI) ca q0 []) (cwx_I hB m_88 kw_Q_init ⟨by decide, by decide⟩ rfl rfl) hN hK hP hD hS hA rfl hl.1 rfl (Nat.le_of_ble_eq_true rfl) d_law_4 ⟨by decide, by decide⟩ (fun u0 H locs hP hD hS => ?_)
  replace hP := st_XP hP
  replace hD := st_XD hD
  refine lv_astore_n (lv' := [(1, .ref q0), (0, .ref b)]) hx hb d_law_7 rfl hl (by decide) rfl (fun ls hl => ?_)
  refine va_new (ci := 1) (fs := (.int 0 :: .null :: .null :: .null :: .null :: .int 0 :: .null :: .null :: .null :: .null :: .null :: .null :: .null :: .null :: .int 0 :: .null :: .int 0 :: .null :: .null :: .null :: .int 0 :: .int 0 :: .int 0 :: .null :: .int 0 :: .null :: .int 0 :: .null :: .null :: .int 0 :: .int 0 :: .int 0 :: .int 0 :: .int 0 :: .null :: .null :: .int 0 :: .int 0 :: .null :: .int 0 :: .null :: .null :: .null :: .int 0 :: .null :: .null :: .null :: .null :: .int 0 :: .int 0 :: .null :: .null :: .int 0 :: .null :: .null :: [])) (C := RX1) (T := TX1) (N := 55) hx hb hB inX1 tyX1 tyX1_ok hown (hB _ m_855) (hB _ m_856) (hB _ m_81) hK hP hD hS hA rfl (fun j hj => by rcases (show j = 0 ∨ j = 1 ∨ j = 2 ∨ j = 3 ∨ j = 4 ∨ j = 5 ∨ j = 6 ∨ j = 7 ∨ j = 8 ∨ j = 9 ∨ j = 10 ∨ j = 11 ∨ j = 12 ∨ j = 13 ∨ j = 14 ∨ j = 15 ∨ j = 16 ∨ j = 17 ∨ j = 18 ∨ j = 19 ∨ j = 20 ∨ j = 21 ∨ j = 22 ∨ j = 23 ∨ j = 24 ∨ j = 25 ∨ j = 26 ∨ j = 27 ∨ j = 28 ∨ j = 29 ∨ j = 30 ∨ j = 31 ∨ j = 32 ∨ j = 33 ∨ j = 34 ∨ j = 35 ∨ j = 36 ∨ j = 37 ∨ j = 38 ∨ j = 39 ∨ j = 40 ∨ j = 41 ∨ j = 42 ∨ j = 43 ∨ j = 44 ∨ j = 45 ∨ j = 46 ∨ j = 47 ∨ j = 48 ∨ j = 49 ∨ j = 50 ∨ j = 51 ∨ j = 52 ∨ j = 53 ∨ j = 54 by omega) with rfl | rfl | rfl | rfl | rfl | rfl | rfl | rfl | rfl | rfl | rfl | rfl | rfl | rfl | rfl | rfl | rfl | rfl | rfl | rfl | rfl | rfl | rfl | rfl | rfl | rfl | rfl | rfl | rfl | rfl | rfl | rfl | rfl | rfl | rfl | rfl | rfl | rfl | rfl | rfl | rfl | rfl | rfl | rfl | rfl | rfl | rfl | rfl | rfl | rfl | rfl | rfl | rfl | rfl | rfl <;> rfl) (by decide) (by decide) d_law_8 (fun q1 H hP hD hS => ?_)
  replace hP := vP_front hP
  replace hD := vD_front hD
  refine lv_dup hx hb d_law_11 rfl ?_
  refine go_IE (rest := [.ref q1]) ⟨hx, hb, hml, hown, hB⟩ nwM_ok (c_M_init l (dC, dI) ca q1 (wX false ca (aX0 q0 u0) sX0)) (cwx_I hB m_857 kw_M_init ⟨by decide, by decide⟩ rfl rfl) (fun _ h => absurd h List.not_mem_nil) hK hP hD hS hA rfl hl.1 rfl (Nat.le_of_ble_eq_true rfl) d_law_12 ⟨by decide, by decide⟩ (fun u1 H locs hP hD hS => ?_)
  rw [st_M] at hP hD
  replace hP := vP_perm List.perm_append_comm hP
  replace hD := vD_perm List.perm_append_comm hD
  refine lv_astore_n (lv' := [(2, .ref q1), (1, .ref q0), (0, .ref b)]) hx hb d_law_15 rfl hl (by decide) rfl (fun ls hl => ?_)
  refine lv_iconst (v := 0) hx hb d_law_16 (by decide) ?_
  refine lv_istore_n (lv' := [(3, .int 0), (2, .ref q1), (1, .ref q0), (0, .ref b)]) hx hb d_law_17 rfl hl (by decide) rfl (fun ls hl => ?_)
  refine W.widen (k := 100 + 12 * 0) (n := 60000 + 100 * 0 + sg false) (by decide) (by decide) ?_
  exact law_loop l hL C0 (dC, dI) ca (aM0 q1 u1) N hK hN Inv HO (L + 1) 0 false (aX0 q0 u0) sX0 sM0 H locs ls (by omega) (by omega) HI hP hD hS (lv_sub hl [3, 2, 1, 0] rfl)
