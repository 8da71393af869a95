/-! groups in step: an aggregate takes the row (own rows) -/
theorem upA_none {arg : Nat → Nat → Option Int64} {k s : Nat} (h : arg k s = none) : upA arg k s none = arg := by
  funext r t
  unfold upA
  by_cases c : r = k ∧ t = s
  · rw [if_pos c, c.1, c.2, h]
  · rw [if_neg c]
/-- what an aggregate did with the row -/
def StepO (N ng U m : Nat) (K : Nat → Nat) (D : Nat → Bool) (Q : (Nat → Int32) → (Nat → Option Int64) → Prop) (k i q GX GM : Nat) (gr : Nat → Nat) (ky : Nat → Nat → Option Int64) (pos : Nat → Nat → Int32) (σ ρ : St) (c : Int32) (σ' ρ' : St) : Prop :=
  XG σ σ' ∧ MGr ρ ρ' ∧ (∀ r, gi σ' r = gi σ r) ∧ ((c = 0 ∧ gi ρ' 14 = 0 ∧ (∀ fu, f_M_putInGroup_37 N (fu + 1) ρ (nI q) (nI k) (nI i) = f_M_putInGroup_37 N fu ρ' (nI q) (nI k) (nI (i + 1))) ∧ ∃ arg', GF ng U K D Q (k + 1) k (i + 1) GX GM gr ky arg' pos σ' ρ') ∨ (¬ c = 0 ∧ gi ρ' 14 = c ∧ ∀ fu, f_M_putInGroup_37 N (fu + 1) ρ (nI q) (nI k) (nI i) = some ((), ρ')))
theorem s_step (N : Nat) (hN : 1100 < N) {nt n m ns ng ni no U k i q GX GM : Nat} {w h T : Nat → Nat} {τ : Nat → Tr} {K : Nat → Nat} {D : Nat → Bool} {Q : (Nat → Int32) → (Nat → Option Int64) → Prop} {gr : Nat → Nat} {ky arg : Nat → Nat → Option Int64} {pos : Nat → Nat → Int32} {σ ρ : St} (b : Base nt n m ns ng ni no w h T τ σ ρ) (hR : Rw σ ρ h ns) (hU : late σ τ ni = U) (hS : Slt σ ρ τ n K D i) (hi : i < m) (hu : U.testBit i = true) (hq0 : ¬ ga ρ 23 i = 0) (hk : k < 512) (hg : gr k = q) (hc : gi σ 20 = nI q) (F : GF ng U K D Q (k + 1) k i GX GM gr ky arg pos σ ρ) :
    ∃ c σ' ρ', f_R_aggregateRow N σ (nI i) = some (c, σ') ∧ StepO N ng U m K D Q k i q GX GM gr ky pos σ ρ c σ' ρ' := by
  obtain ⟨d, hw, hgn, co, ag, -⟩ := id b
  have n60 := d.2.1.1
  have m8 := d.2.1.2.1
  obtain ⟨e, a, j, cc, e1, a1, j1, ha, ht, hcc, hta, h5, hkd, hf, k1, hof, k2, hfl, ntr, ntb⟩ := hS
  have cols : ∀ b, (tcb (τ a)).testBit b = true → Pc ρ w ns b := (slot_cols d co (by rw [hU]; exact hu)).2 e cc (τ a) e1 ht hcc
  obtain ⟨f1, f2, f3, f4, f5, f6, f7, f8, f9, f10, f11, f12, f13, f14⟩ := id F
  have hGs : GX ≤ 512 ∧ GM ≤ GX ∧ q < GM := by
    have := (f6 k (by omega)).1
    rw [hg] at this
    rcases f5 with ⟨a, b, c⟩ | ⟨a, b, ⟨c, e⟩ | ⟨c, e⟩⟩ <;> omega
  have nn : arg k i = none := (f11 k i (by omega) (by omega)).2 (fun z => by omega)
  have okk : okF (acc K D gr arg q i k).2 := by
    have := f13 q i (by omega)
    rw [acc_other (Or.inr nn)] at this
    exact this
  have E37 := fun fu => e37 N (ρ := ρ) (m := m) (q := q) (k := k) (i := i) (e := e) (j := j) (K := K i) (fu := fu) hi m8 (by omega) d.2.1.2.2.2.2.2.1 ha (by omega) h5 hkd hf hq0
  have tk := fun (σ1 : St) (v : Int64) (g1 : gi σ1 = gi σ) (g2 : ga σ1 = ga σ) (g3 : gb σ1 = gb σ) => x_take N hN (K := K) (D := D) (gr := gr) (arg := arg) (σ := σ1) (k := k) (q := q) (G := GX) (s := i) (v := v) hk hGs.1 (by omega) (by omega) (by rw [g1]; exact f1) (by rw [g1]; exact hc) hg (by unfold Chn Fst Nxt; rw [g2]; exact f8) (by unfold AX; rw [g2, g3]; exact f10) nn h5 (by rw [g2]; exact k1) (by rw [g2]; exact k2)
  have xr : f_R_aggregateRow N σ (nI i) = if K i = 0 then (bd (f_G_takeNumber N σ (nI i) 1 0) fun r5 s6 => some (r5, s6)) else bd (f_ev N true 130 0 σ (nI a) 0) fun r1 s2 => if 0 ≤ r1 then (bd (f_G_takeNumber N s2 (nI i) r1 (gl s2 0)) fun r3 s4 => some (r3, s4)) else some (r1, s2) := by
    unfold f_R_aggregateRow
    simp only [ckb_nI (show i < 8 by omega) (show 8 < 2 ^ 31 by decide), nI_clamp (show i < 2 ^ 31 by omega), k1, hof]
    by_cases c : K i = 0
    · rw [if_pos (show nI (K i) = 0 by rw [c]; rfl), if_pos c]
    · rw [if_neg (show ¬ nI (K i) = 0 from fun z => c ((nI_z (by omega)).mp z)), if_neg c]
  have okn : ∀ v, ¬ cntB D gr (upA arg k i v) k i = true → okF (acc K D gr (upA arg k i v) q i (k + 1)).2 := fun v z => by rw [acc_unc z, acc_upk]; exact okk
  by_cases cK : K i = 0
  · rw [if_pos cK] at xr
    obtain ⟨c, σ', t1, t2, t3⟩ := tk σ 0 rfl rfl rfl
    rw [t1, bd_eq] at xr
    refine ⟨c, σ', ρ, xr, t2.1, MGr.rfl, t2.2.1, ?_⟩
    rcases t3 with ⟨u1, u2, u3⟩ | ⟨u1, u2, u3⟩
    · left
      refine ⟨u1, hw, fun fu => by rw [E37, if_pos cK], _, F.next (v := some 0) (by omega) hg hu t2.2.1 t2.2.2.1 t2.2.2.2 u2 rfl rfl rfl rfl rfl (fun _ _ => rfl) (fun _ _ => rfl) (by unfold ArgE; rw [if_pos cK]; exact upA_eq) (fun _ _ => rfl) (fun z => by omega) ?_⟩
      by_cases c1 : cntB D gr (upA arg k i (some 0)) k i = true
      · exact u3 c1
      · exact okn _ c1
    · exact absurd (acc_ok (v := 0) (by omega) hg u2 upA_eq (by decide) (by rw [acc_upk]; exact okk)) u3
  · rw [if_neg cK] at xr
    obtain ⟨r, hr, ok, hx, -, -⟩ := ev_row N (by omega) true d hR (Nat.le_refl _) a1 cols ntb hgn hw
    obtain ⟨l, x1, x2, x3⟩ := hx ntr
    obtain ⟨r', hr', -, -, -, ρ1, m1, m2, m3⟩ := ev_row N (by omega) true d hR (Nat.le_refl _) j1 (by rw [hta]; exact cols) (by rw [hta]; exact ntb) hgn hw
    rw [hta, ← hr] at hr'
    subst hr'
    rw [x1, bd_eq] at xr
    have em : ∀ fu, f_M_putInGroup_37 N (fu + 1) ρ (nI q) (nI k) (nI i) = if gi ρ1 14 = 0 then (if K i = 2 ∨ K i = 5 then f_M_putInGroup_147 N (f_M_putInGroup_37 N fu) (wz (wl ρ1 3 (nI (8 * k + i)) (gb ρ1 6 0)) 21 (nI (8 * k + i)) (ga ρ1 26 0)) (nI q) (nI k) (nI i) else f_M_putInGroup_37 N fu (wz (wl ρ1 3 (nI (8 * k + i)) (gb ρ1 6 0)) 21 (nI (8 * k + i)) (ga ρ1 26 0)) (nI q) (nI k) (nI (i + 1))) else some ((), ρ1) := fun fu => by
      rw [E37, if_neg cK, m1, bd_eq]
    cases r' with
    | error er =>
      have hn := err_neg (ok.1 er rfl)
      have w1 : gi ρ1 14 = er := m3
      have ne : ¬ er = 0 := fun z => by have := hn.2; rw [z] at this; exact absurd this (by decide)
      rw [if_neg (show ¬ (0 : Int32) ≤ vc (.error er) from hn.1)] at xr
      exact ⟨er, wL σ l, ρ1, xr, xg_wL, m2.mq, fun _ => rfl, Or.inr ⟨ne, w1, fun fu => by rw [em, if_neg (by rw [w1]; exact ne)]⟩⟩
    | ok v =>
      obtain ⟨w1, w2⟩ := m3
      rw [if_pos vc_ok] at xr
      have fl01 : ga ρ1 26 0 = 0 ∨ ga ρ1 26 0 = 1 := by cases v with
        | none => exact Or.inr w2
        | some z => exact Or.inl w2.1
      have lt : 8 * k + i < 2 ^ 31 := by omega
      obtain ⟨ρ8, hρ8⟩ : ∃ s, s = wz (wl ρ1 3 (nI (8 * k + i)) (gb ρ1 6 0)) 21 (nI (8 * k + i)) (ga ρ1 26 0) := ⟨_, rfl⟩
      rw [← hρ8] at em
      have mq8 : MGr ρ ρ8 := by rw [hρ8]; exact (m2.mq.trans mq_ar).trans mq_an
      have g8 : ∀ r, r ≠ 19 → r ≠ 20 → r ≠ 14 → gi ρ8 r = gi ρ r := fun r a b c => by rw [hρ8]; exact m2.1 r a b c
      have w8 : gi ρ8 14 = 0 := by rw [hρ8]; exact w1
      have a8 : ∀ r, r ≠ 24 → r ≠ 25 → r ≠ 26 → r ≠ 21 → ga ρ8 r = ga ρ r := fun r a b c e => by rw [hρ8, ga_wz, if_neg e]; exact m2.2.1 r a b c
      have b8 : ∀ r, r ≠ 6 → r ≠ 3 → gb ρ8 r = gb ρ r := fun r a b => by rw [hρ8, gb_wz, gb_wl, if_neg b]; exact m2.2.2 r a
      have v8 : gb ρ8 6 = gb ρ1 6 := by rw [hρ8, gb_wz, gb_wl, if_neg (by decide)]
      have n8 : ∀ z, ga ρ8 21 z = if z = 8 * k + i then ga ρ1 26 0 else ga ρ 21 z := fun z => by rw [hρ8, ga_wz, if_pos rfl, nI_clamp lt, upd_at, nar_b fl01, ga_wl, m2.2.1 21 (by decide) (by decide) (by decide)]
      have r8 : ∀ z, gb ρ8 3 z = if z = 8 * k + i then gb ρ1 6 0 else gb ρ 3 z := fun z => by rw [hρ8, gb_wz, gb_wl, if_pos rfl, nI_clamp lt, updL_at, m2.2.2 3 (by decide)]
      have enc8 : enc (ga ρ8 21 (8 * k + i)) (gb ρ8 3 (8 * k + i)) v := by
        rw [n8, r8, if_pos rfl, if_pos rfl]
        cases v with
        | none => exact Or.inl ⟨rfl, w2⟩
        | some z => exact Or.inr ⟨by rw [w2.2], w2.1⟩
      have arg8 : ∀ ρ', ga ρ' 21 = ga ρ8 21 → gb ρ' 3 = gb ρ8 3 → ArgE K (upA arg k i v) ρ' k i := fun ρ' y1 y2 => by
        unfold ArgE
        rw [if_neg cK, upA_eq, y1, y2]
        exact enc8
      -- the next state of all
      have nx : ∀ (σ' ρ' : St), (∀ r, gi σ' r = gi σ r) → (∀ r, r ≠ 29 → r ≠ 30 → ga σ' r = ga σ r) → (∀ r, r ≠ 4 → r ≠ 5 → gb σ' r = gb σ r) → AX K D gr (upA arg k i v) (k + 1) GX σ' → gi ρ' = gi ρ8 → ga ρ' = ga ρ8 → (∀ r, r ≠ 5 → gb ρ' r = gb ρ8 r) → (∀ z, z ≠ 8 * q + i → gb ρ' 5 z = gb ρ8 5 z) → (K i = 2 ∨ K i = 5 → gb ρ' 5 (8 * q + i) = (acc K D gr (upA arg k i v) q i (k + 1)).2) → okF (acc K D gr (upA arg k i v) q i (k + 1)).2 → GF ng U K D Q (k + 1) k (i + 1) GX GM gr ky (upA arg k i v) pos σ' ρ' := by
        intro σ' ρ' s1 s2 s3 s4 p1 p2 p3 p4 p5 p6
        refine F.next (by omega) hg hu s1 s2 s3 s4 ?_ ?_ ?_ ?_ ?_ ?_ ?_ (arg8 ρ' (by rw [p2]) (p3 _ (by decide))) ?_ p5 p6
        · rw [p1]; exact g8 _ (by decide) (by decide) (by decide)
        · rw [p1]; exact g8 _ (by decide) (by decide) (by decide)
        · rw [p2]; exact a8 _ (by decide) (by decide) (by decide) (by decide)
        · rw [p2]; exact a8 _ (by decide) (by decide) (by decide) (by decide)
        · rw [p3 _ (by decide)]; exact b8 _ (by decide) (by decide)
        · intro z hz; rw [p2, n8, if_neg hz]
        · intro z hz; rw [p3 _ (by decide), r8, if_neg hz]
        · intro z hz; rw [p4 z hz, b8 _ (by decide) (by decide)]
      -- what counts, in M
      have mc : ∃ bb : Int32, f_M_countsIn N ρ8 (nI k) (nI i) = some (bb, ρ8) ∧ (bb = 0 ∨ bb = 1) ∧ (bb = 1 ↔ cntB D gr (upA arg k i v) k i = true) := by
        refine m_counts N (by omega) (e := e) (by omega) (by omega) (by omega) ?_ ?_ ?_ ?_
        · rw [a8 _ (by decide) (by decide) (by decide) (by decide)]; exact ha
        · rw [a8 _ (by decide) (by decide) (by decide) (by decide)]; exact hfl cK
        · intro z hz
          rw [a8 _ (by decide) (by decide) (by decide) (by decide)]
          have := f6 z (by omega)
          exact ⟨by omega, this.2⟩
        · intro z hz
          by_cases c : z = k
          · subst c
            rw [upA_eq]
            exact enc8
          · have := (f11 z i (by omega) (by omega)).1 ⟨hu, Or.inl (by omega)⟩
            unfold ArgE at this
            rw [if_neg cK] at this
            rw [upA_ne (fun y => c y.1), n8, r8, if_neg (by omega), if_neg (by omega)]
            exact this
      obtain ⟨bb, c1, c2, c3⟩ := mc
      have sum8 : K i = 2 ∨ K i = 5 → gb ρ8 5 (8 * q + i) = (acc K D gr (upA arg k i v) q i k).2 := fun z => by
        rw [b8 _ (by decide) (by decide), f12 q i hGs.2.2 (by omega) hu z, acc_other (Or.inr nn), acc_upk]
      have E147 := fun fu => e147 N (ρ := ρ8) (q := q) (k := k) (i := i) (f := f_M_putInGroup_37 N fu) (by omega) (by omega) c1
      -- what X has taken
      have xt : ∃ c σ', f_R_aggregateRow N σ (nI i) = some (c, σ') ∧ XG σ σ' ∧ (∀ r, gi σ' r = gi σ r) ∧ (∀ r, r ≠ 29 → r ≠ 30 → ga σ' r = ga σ r) ∧ (∀ r, r ≠ 4 → r ≠ 5 → gb σ' r = gb σ r) ∧ ((c = 0 ∧ AX K D gr (upA arg k i v) (k + 1) GX σ' ∧ (cntB D gr (upA arg k i v) k i = true → okF (acc K D gr (upA arg k i v) q i (k + 1)).2)) ∨ (c = -21 ∧ cntB D gr (upA arg k i v) k i = true ∧ ¬ okF (acc K D gr (upA arg k i v) q i (k + 1)).2)) := by
        cases v with
        | none =>
          refine ⟨0, wL σ l, ?_, xg_wL, fun _ => rfl, fun _ _ _ => rfl, fun _ _ _ => rfl, Or.inl ⟨rfl, ?_, fun z => ?_⟩⟩
          · rw [xr]
            unfold f_G_takeNumber
            rw [if_pos (show vc (.ok none) = 0 from rfl), bd_eq]
          · rw [upA_none nn]; exact f10
          · rw [cnt_none upA_eq] at z; cases z
        | some z =>
          obtain ⟨c, σ', t1, t2, t3⟩ := tk (wL σ l) z rfl rfl rfl
          refine ⟨c, σ', ?_, xg_wL.trans t2.1, t2.2.1, t2.2.2.1, t2.2.2.2, t3⟩
          rw [xr, show gl (wL σ l) 0 = z from x2 z rfl]
          show bd (f_G_takeNumber N (wL σ l) (nI i) 1 z) _ = _
          rw [t1, bd_eq]
      obtain ⟨c, σ', y1, y2, y3, y4, y5, y6⟩ := xt
      refine ⟨c, σ', ?_⟩
      by_cases cS : K i = 2 ∨ K i = 5
      · -- sums are checked
        by_cases cb : bb = 0
        · have nc : ¬ cntB D gr (upA arg k i v) k i = true := fun z => by have := c3.mpr z; rw [cb] at this; exact absurd this (by decide)
          refine ⟨ρ8, y1, y2, mq8, y3, ?_⟩
          rcases y6 with ⟨u1, u2, u3⟩ | ⟨u1, u2, u3⟩
          · left
            refine ⟨u1, w8, fun fu => by rw [em, if_pos w1, if_pos cS, E147, if_pos cb], _, nx σ' ρ8 y3 y4 y5 u2 rfl rfl (fun _ _ => rfl) (fun _ _ => rfl) (fun z => by rw [sum8 z, acc_unc nc]) (okn _ nc)⟩
          · exact absurd u2 nc
        · have b1 : bb = 1 := by rcases c2 with z | z; exact absurd z cb; exact z
          have yc := c3.mp b1
          obtain ⟨z, hz⟩ := cnt_some yc
          rw [upA_eq] at hz
          subst hz
          have sv : gb ρ8 6 0 = z := by rw [v8]; exact w2.2
          have ov : okF z := ok.2.2 ntr z rfl
          have ot : okF (acc K D gr (upA arg k i (some z)) q i k).2 := by rw [acc_upk]; exact okk
          have sm := acc_sum (K := K) cS hg yc upA_eq
          obtain ⟨ρ9, hρ9⟩ : ∃ s, s = wl ρ8 5 (nI (8 * q + i)) (gb ρ8 5 (8 * q + i) + gb ρ8 6 0) := ⟨_, rfl⟩
          have E2 : ∀ fu, f_M_putInGroup_37 N (fu + 1) ρ (nI q) (nI k) (nI i) = if okF (acc K D gr (upA arg k i (some z)) q i (k + 1)).2 then f_M_putInGroup_37 N fu ρ9 (nI q) (nI k) (nI (i + 1)) else some ((), si ρ9 14 (-21)) := fun fu => by
            rw [em, if_pos w1, if_pos cS, E147, if_neg cb, ← hρ9, sum8 cS, sv]
            have := sum_far ot ov
            by_cases c4 : okF (acc K D gr (upA arg k i (some z)) q i (k + 1)).2
            · rw [if_pos c4, if_pos (this.mpr (by rw [← sm]; exact c4))]
            · rw [if_neg c4, if_neg (fun y => c4 (by rw [sm]; exact this.mp y))]
          have s9 : ∀ y, gb ρ9 5 y = if y = 8 * q + i then (acc K D gr (upA arg k i (some z)) q i (k + 1)).2 else gb ρ8 5 y := fun y => by
            rw [hρ9, gb_wl, if_pos rfl, nI_clamp (show 8 * q + i < 2 ^ 31 by omega), updL_at, sum8 cS, sv, ← sm]
          have mq9 : MGr ρ ρ9 := by rw [hρ9]; exact mq8.trans mq_su
          rcases y6 with ⟨u1, u2, u3⟩ | ⟨u1, u2, u3⟩
          · refine ⟨ρ9, y1, y2, mq9, y3, Or.inl ⟨u1, by rw [hρ9]; exact w8, fun fu => by rw [E2, if_pos (u3 yc)], _, nx σ' ρ9 y3 y4 y5 u2 (by rw [hρ9]; rfl) (by rw [hρ9]; rfl) (fun r hr => by rw [hρ9, gb_wl, if_neg hr]) (fun y hy => by rw [s9, if_neg hy]) (fun _ => by rw [s9, if_pos rfl]) (u3 yc)⟩⟩
          · refine ⟨si ρ9 14 (-21), y1, y2, mq9.trans ⟨fun r _ _ hr _ _ => by rw [gi_si, if_neg hr], fun _ _ _ _ _ _ _ => rfl, fun _ _ _ _ _ => rfl⟩, y3, Or.inr ⟨by rw [u1]; decide, by rw [u1]; rfl, fun fu => by rw [E2, if_neg u3]⟩⟩
      · refine ⟨ρ8, y1, y2, mq8, y3, ?_⟩
        have okq : cntB D gr (upA arg k i v) k i = true → okF (acc K D gr (upA arg k i v) q i (k + 1)).2 := fun yc => by
          obtain ⟨z, hz⟩ := cnt_some yc
          rw [upA_eq] at hz
          subst hz
          exact acc_ok cS hg yc upA_eq (ok.2.2 ntr z rfl) (by rw [acc_upk]; exact okk)
        rcases y6 with ⟨u1, u2, u3⟩ | ⟨u1, u2, u3⟩
        · left
          refine ⟨u1, w8, fun fu => by rw [em, if_pos w1, if_neg cS], _, nx σ' ρ8 y3 y4 y5 u2 rfl rfl (fun _ _ => rfl) (fun _ _ => rfl) (fun z => absurd z cS) ?_⟩
          by_cases yc : cntB D gr (upA arg k i v) k i = true
          · exact okq yc
          · exact okn _ yc
        · exact absurd (okq u2) u3

