/-! the class takes a number into a group (own rows) -/
def AX (K : Nat → Nat) (D : Nat → Bool) (gr : Nat → Nat) (arg : Nat → Nat → Option Int64) (R G : Nat) (σ : St) : Prop :=
  (∀ r, r < R → ∃ nb : Nat, nb < 256 ∧ ga σ 29 r = nI nb ∧ ∀ s, s < 8 → (nb.testBit s = true ↔ cntB D gr arg r s = true)) ∧
  (∀ r s, r < R → s < 8 → cntB D gr arg r s = true → gb σ 4 (8 * r + s) = (arg r s).getD 0) ∧
  (∀ q s, q < G → s < 8 → ga σ 30 (8 * q + s) = nI (acc K D gr arg q s R).1 ∧ gb σ 5 (8 * q + s) = (acc K D gr arg q s R).2)
theorem x_comb {N : Nat} {σ : St} {K : Nat} {t v : Int64} (hK : K ≤ 5) : f_G_combine N σ (nI K) t v = some (comb K t v, σ) := by
  have : K = 0 ∨ K = 1 ∨ K = 2 ∨ K = 3 ∨ K = 4 ∨ K = 5 := by omega
  unfold f_G_combine comb
  rcases this with rfl | rfl | rfl | rfl | rfl | rfl <;> simp (decide := true) only [if_true, if_false, or_false, false_or, or_true, true_or]
theorem sh8 : ∀ i, i < 8 → (1 : Int32) <<< (nI i &&& 31) = nI (2 ^ i) := by decide +kernel
theorem cnt_up {D : Nat → Bool} {gr : Nat → Nat} {arg : Nat → Nat → Option Int64} {k s r t : Nat} {v : Option Int64} (h : r < k ∨ ¬ t = s) : cntB D gr (upA arg k s v) r t = cntB D gr arg r t := by
  refine cnt_congr (fun _ _ => rfl) (fun i hi => upA_ne (fun z => ?_))
  rcases h with h | h
  · omega
  · exact h z.2
theorem acc_up {K : Nat → Nat} {D : Nat → Bool} {gr : Nat → Nat} {arg : Nat → Nat → Option Int64} {k s q t : Nat} {v : Option Int64} (h : ¬ t = s) (R : Nat) : acc K D gr (upA arg k s v) q t R = acc K D gr arg q t R := acc_congr R (fun _ _ => rfl) (fun i _ => upA_ne (fun z => h z.2))
theorem acc_upk {K : Nat → Nat} {D : Nat → Bool} {gr : Nat → Nat} {arg : Nat → Nat → Option Int64} {k s q : Nat} {v : Option Int64} : acc K D gr (upA arg k s v) q s k = acc K D gr arg q s k := acc_congr k (fun _ _ => rfl) (fun i hi => upA_ne (fun z => by omega))
/-- what X's take leaves alone -/
def XT (σ σ' : St) : Prop := XG σ σ' ∧ (∀ r, gi σ' r = gi σ r) ∧ (∀ r, r ≠ 29 → r ≠ 30 → ga σ' r = ga σ r) ∧ (∀ r, r ≠ 4 → r ≠ 5 → gb σ' r = gb σ r)
theorem x_take (N : Nat) (hN : 1100 < N) {K : Nat → Nat} {D : Nat → Bool} {gr : Nat → Nat} {arg : Nat → Nat → Option Int64} {σ : St} {k q G s : Nat} {v : Int64} (hk : k < 512) (hG : G ≤ 512) (hq : q < G) (hs : s < 8) (hr : gi σ 19 = nI k) (hc : gi σ 20 = nI q) (hg : gr k = q) (h : Chn σ gr (k + 1) G) (hA : AX K D gr arg (k + 1) G σ) (hn : arg k s = none)
    (hK : K s ≤ 5) (k1 : ga σ 10 s = nI (K s)) (k2 : ga σ 12 s = 0 ↔ D s = false) :
    ∃ c σ', f_G_takeNumber N σ (nI s) 1 v = some (c, σ') ∧ XT σ σ' ∧ ((c = 0 ∧ AX K D gr (upA arg k s (some v)) (k + 1) G σ' ∧ (cntB D gr (upA arg k s (some v)) k s = true → okF (acc K D gr (upA arg k s (some v)) q s (k + 1)).2)) ∨ (c = -21 ∧ cntB D gr (upA arg k s (some v)) k s = true ∧ ¬ okF (acc K D gr (upA arg k s (some v)) q s (k + 1)).2)) := by
  obtain ⟨A1, A2, A3⟩ := hA
  obtain ⟨arg', harg⟩ : ∃ a, a = upA arg k s (some v) := ⟨_, rfl⟩
  rw [← harg]
  have av : arg' k s = some v := by rw [harg]; exact upA_eq
  have cne : ∀ r t, (r < k ∨ ¬ t = s) → cntB D gr arg' r t = cntB D gr arg r t := fun r t h => by rw [harg]; exact cnt_up h
  have ane : ∀ p t R, ¬ t = s → acc K D gr arg' p t R = acc K D gr arg p t R := fun p t R h => by rw [harg]; exact acc_up h R
  have ak : ∀ p, acc K D gr arg' p s k = acc K D gr arg p s k := fun p => by rw [harg]; exact acc_upk
  have ao : ∀ p, acc K D gr arg p s (k + 1) = acc K D gr arg p s k := fun p => acc_other (Or.inr hn)
  obtain ⟨cb, hcb⟩ : ∃ f : Nat → Nat, f = fun r => (ga σ 29 r).toNatClampNeg := ⟨_, rfl⟩
  have cbs : ∀ r, r < k + 1 → cb r < 256 ∧ ga σ 29 r = nI (cb r) ∧ ∀ t, t < 8 → ((cb r).testBit t = true ↔ cntB D gr arg r t = true) := by
    intro r hr'
    obtain ⟨nb, b1, b2, b3⟩ := A1 r hr'
    have e : cb r = nb := by rw [hcb]; show (ga σ 29 r).toNatClampNeg = nb; rw [b2, nI_clamp (by omega)]
    rw [e]
    exact ⟨b1, b2, b3⟩
  have ck0 : (cb k).testBit s = false := by
    cases z : (cb k).testBit s
    · rfl
    · have := ((cbs k (by omega)).2.2 s hs).mp z
      rw [cnt_none hn] at this; cases this
  -- not counted
  have skip : cntB D gr arg' k s = false → AX K D gr arg' (k + 1) G σ := by
    intro nc
    have same : ∀ r t, r < k + 1 → cntB D gr arg' r t = cntB D gr arg r t := by
      intro r t hr'
      by_cases c : r < k ∨ ¬ t = s
      · exact cne r t c
      · have e1 : r = k := by omega
        have e2 : t = s := by omega
        rw [e1, e2, nc, cnt_none hn]
    refine ⟨fun r hr' => ?_, fun r t hr' ht hc' => ?_, fun p t hp ht => ?_⟩
    · obtain ⟨nb, b1, b2, b3⟩ := A1 r hr'
      exact ⟨nb, b1, b2, fun t ht => by rw [same r t hr']; exact b3 t ht⟩
    · rw [same r t hr'] at hc'
      rw [A2 r t hr' ht hc']
      by_cases c : r = k ∧ t = s
      · rw [c.1, c.2, cnt_none hn] at hc'; cases hc'
      · rw [harg, upA_ne c]
    · by_cases c : t = s
      · subst c
        have : acc K D gr arg' p t (k + 1) = acc K D gr arg' p t k := by
          show (if _ then _ else _) = _
          rw [if_neg (fun z => by rw [nc] at z; cases z.2)]
        rw [this, ak, ← ao p]
        exact A3 p t hp ht
      · rw [ane p t _ c]
        exact A3 p t hp ht
  -- counted
  have count : cntB D gr arg' k s = true → ∃ c σ', f_G_takeNumber_27 N σ (nI s) v = some (c, σ') ∧ XT σ σ' ∧ ((c = 0 ∧ AX K D gr arg' (k + 1) G σ' ∧ okF (acc K D gr arg' q s (k + 1)).2) ∨ (c = -21 ∧ ¬ okF (acc K D gr arg' q s (k + 1)).2)) := by
    intro yc
    obtain ⟨t, ht⟩ : ∃ t, t = (if (acc K D gr arg q s k).1 = 0 then v else comb (K s) (acc K D gr arg q s k).2 v) := ⟨_, rfl⟩
    have accn : acc K D gr arg' q s (k + 1) = ((acc K D gr arg q s k).1 + 1, t) := by
      show (if gr k = q ∧ cntB D gr arg' k s = true then ((acc K D gr arg' q s k).1 + 1, if (acc K D gr arg' q s k).1 = 0 then (arg' k s).getD 0 else comb (K s) (acc K D gr arg' q s k).2 ((arg' k s).getD 0)) else acc K D gr arg' q s k) = _
      rw [if_pos ⟨hg, yc⟩, ak, av, ht]
      rfl
    have lec := acc_le (K := K) (D := D) (gr := gr) (arg := arg) (q := q) (s := s) k
    obtain ⟨a3, a4⟩ := A3 q s hq hs
    rw [ao] at a3 a4
    have pl : 8 * q + s < 4096 := by omega
    have kl : 8 * k + s < 4096 := by omega
    obtain ⟨cb1, cb2, cb3⟩ := cbs k (by omega)
    obtain ⟨σ2, hσ2⟩ : ∃ z, z = wa (wl σ 4 (nI (8 * k + s)) v) 29 (nI k) (nI (cb k ||| 2 ^ s)) := ⟨_, rfl⟩
    have g2 : ∀ r, gi σ2 r = gi σ r := fun r => by rw [hσ2]; rfl
    have e27 : f_G_takeNumber_27 N σ (nI s) v = f_G_takeNumber_102 N σ2 (nI (8 * q + s)) t := by
      unfold f_G_takeNumber_27
      rw [hr, nI_8, ckb_nI kl (by decide), nm_eq, show gi (wl σ 4 (nI (8 * k + s)) v) 19 = nI k from hr, ckb_nI hk (by decide), ckb_nI hk (by decide), nI_clamp (show k < 2 ^ 31 by omega), show ga (wl σ 4 (nI (8 * k + s)) v) 29 k = nI (cb k) from cb2, sh8 s hs, nI_or, nm_eq, ← hσ2, g2, hc, nI_8, ckb_nI pl (by decide), ckb_nI pl (by decide), nI_clamp (show 8 * q + s < 2 ^ 31 by omega), show ga σ2 30 (8 * q + s) = nI (acc K D gr arg q s k).1 by rw [hσ2]; exact a3, ckb_nI hs (by decide), nI_clamp (show s < 2 ^ 31 by omega), show ga σ2 10 s = nI (K s) by rw [hσ2]; exact k1, show gb σ2 5 (8 * q + s) = (acc K D gr arg q s k).2 by rw [hσ2]; exact a4, x_comb hK, bd_eq, ht]
      by_cases c : (acc K D gr arg q s k).1 = 0
      · rw [if_pos (show nI (acc K D gr arg q s k).1 = 0 by rw [c]; rfl), if_pos c]
      · rw [if_neg (show ¬ nI (acc K D gr arg q s k).1 = 0 from fun z => c ((nI_z (by omega)).mp z)), if_neg c]
    have xg2 : XG σ σ2 := by rw [hσ2]; exact xg_nu.trans xg_cb
    have ga2 : ∀ r, r ≠ 29 → ga σ2 r = ga σ r := fun r hr' => by rw [hσ2, ga_wa, if_neg hr', ga_wl]
    have gb2 : ∀ r, r ≠ 4 → gb σ2 r = gb σ r := fun r hr' => by rw [hσ2, gb_wa, gb_wl, if_neg hr']
    rw [e27, accn]
    unfold f_G_takeNumber_102
    simp only [cmp_lt, cmp_le]
    by_cases o1 : t < -1000000000000000
    · rw [if_pos o1]
      exact ⟨-21, σ2, rfl, ⟨xg2, g2, fun r a _ => ga2 r a, fun r a _ => gb2 r a⟩, Or.inr ⟨rfl, fun z => by have := z.1; rw [i64_le] at this; rw [i64_lt] at o1; omega⟩⟩
    · rw [if_neg o1]
      by_cases o2 : t ≤ 1000000000000000
      · have okt : okF t := ⟨by rw [i64_le]; rw [i64_lt] at o1; omega, o2⟩
        rw [if_pos o2, ckb_nI pl (by decide), ckb_nI pl (by decide), nI_clamp (show 8 * q + s < 2 ^ 31 by omega), show ga σ2 30 (8 * q + s) = nI (acc K D gr arg q s k).1 by rw [hσ2]; exact a3, nI_1, nm_eq, ckb_nI pl (by decide), nm_eq]
        refine ⟨0, _, rfl, ⟨(xg2.trans xg_co).trans xg_to, g2, fun r a b => by rw [ga_wl, ga_wa, if_neg b]; exact ga2 r a, fun r a b => by rw [gb_wl, if_neg b]; exact gb2 r a⟩, Or.inl ⟨rfl, ⟨fun r hr' => ?_, fun r u hr' hu hcu => ?_, fun p u hp hu => ?_⟩, okt⟩⟩
        · have e : ga (wl (wa σ2 30 (nI (8 * q + s)) (nI ((acc K D gr arg q s k).1 + 1))) 5 (nI (8 * q + s)) t) 29 r = if r = k then nI (cb k ||| 2 ^ s) else ga σ 29 r := by
            rw [ga_wl, ga_wa, if_neg (by decide), hσ2, ga_wa, if_pos rfl, nI_clamp (show k < 2 ^ 31 by omega), upd_at]
            rfl
          rw [e]
          by_cases c : r = k
          · rw [if_pos c, c]
            refine ⟨cb k ||| 2 ^ s, Nat.or_lt_two_pow (n := 8) cb1 (Nat.pow_lt_pow_right (by decide) hs), rfl, fun u hu => ?_⟩
            rw [Nat.testBit_or, Bool.or_eq_true, Nat.testBit_two_pow, decide_eq_true_eq]
            by_cases c2 : u = s
            · rw [c2]
              exact ⟨fun _ => yc, fun _ => Or.inr rfl⟩
            · rw [cne k u (Or.inr c2), ← cb3 u hu]
              exact ⟨fun z => by rcases z with z | z; exact z; exact absurd z.symm c2, fun z => Or.inl z⟩
          · rw [if_neg c]
            obtain ⟨nb, b1, b2, b3⟩ := A1 r hr'
            exact ⟨nb, b1, b2, fun u hu => by rw [cne r u (Or.inl (by omega))]; exact b3 u hu⟩
        · have e : gb (wl (wa σ2 30 (nI (8 * q + s)) (nI ((acc K D gr arg q s k).1 + 1))) 5 (nI (8 * q + s)) t) 4 (8 * r + u) = if 8 * r + u = 8 * k + s then v else gb σ 4 (8 * r + u) := by
            rw [gb_wl, if_neg (by decide), gb_wa, hσ2, gb_wa, gb_wl, if_pos rfl, nI_clamp (show 8 * k + s < 2 ^ 31 by omega), updL_at]
          rw [e]
          by_cases c : r = k ∧ u = s
          · rw [if_pos (by omega), c.1, c.2, av]; rfl
          · rw [if_neg (by omega)]
            have cu : cntB D gr arg r u = true := by rw [← cne r u (by omega)]; exact hcu
            rw [A2 r u hr' hu cu, harg, upA_ne c]
        · have e1 : ga (wl (wa σ2 30 (nI (8 * q + s)) (nI ((acc K D gr arg q s k).1 + 1))) 5 (nI (8 * q + s)) t) 30 (8 * p + u) = if 8 * p + u = 8 * q + s then nI ((acc K D gr arg q s k).1 + 1) else ga σ 30 (8 * p + u) := by
            rw [ga_wl, ga_wa, if_pos rfl, nI_clamp (show 8 * q + s < 2 ^ 31 by omega), upd_at, ga2 _ (by decide)]
          have e2 : gb (wl (wa σ2 30 (nI (8 * q + s)) (nI ((acc K D gr arg q s k).1 + 1))) 5 (nI (8 * q + s)) t) 5 (8 * p + u) = if 8 * p + u = 8 * q + s then t else gb σ 5 (8 * p + u) := by
            rw [gb_wl, if_pos rfl, nI_clamp (show 8 * q + s < 2 ^ 31 by omega), updL_at, gb_wa, gb2 _ (by decide)]
          rw [e1, e2]
          by_cases c : p = q ∧ u = s
          · rw [if_pos (by omega), if_pos (by omega), c.1, c.2, accn]
            exact ⟨rfl, rfl⟩
          · rw [if_neg (by omega), if_neg (by omega)]
            by_cases c2 : u = s
            · subst c2
              have : acc K D gr arg' p u (k + 1) = acc K D gr arg' p u k := by
                show (if _ then _ else _) = _
                rw [if_neg (fun z => c ⟨by rw [← hg]; exact z.1.symm, rfl⟩)]
              rw [this, ak, ← ao p]
              exact A3 p u hp hu
            · rw [ane p u _ c2]
              exact A3 p u hp hu
      · rw [if_neg o2]
        exact ⟨-21, σ2, rfl, ⟨xg2, g2, fun r a _ => ga2 r a, fun r a _ => gb2 r a⟩, Or.inr ⟨rfl, fun z => o2 z.2⟩⟩
  unfold f_G_takeNumber
  rw [if_neg (show ¬ (1 : Int32) = 0 by decide), ckb_nI hs (by decide), nI_clamp (show s < 2 ^ 31 by omega)]
  have finC : cntB D gr arg' k s = true → ∃ c σ', f_G_takeNumber_27 N σ (nI s) v = some (c, σ') ∧ XT σ σ' ∧ ((c = 0 ∧ AX K D gr arg' (k + 1) G σ' ∧ (cntB D gr arg' k s = true → okF (acc K D gr arg' q s (k + 1)).2)) ∨ (c = -21 ∧ cntB D gr arg' k s = true ∧ ¬ okF (acc K D gr arg' q s (k + 1)).2)) := by
    intro yc
    obtain ⟨c, σ', z1, z2, z3⟩ := count yc
    refine ⟨c, σ', z1, z2, ?_⟩
    rcases z3 with ⟨y1, y2, y3⟩ | ⟨y1, y2⟩
    · exact Or.inl ⟨y1, y2, fun _ => y3⟩
    · exact Or.inr ⟨y1, yc, y2⟩
  have ci := cnt_iff (D := D) (gr := gr) av
  by_cases c : ga σ 12 s = 0
  · rw [if_pos c]
    exact finC (ci.mpr (Or.inl (k2.mp c)))
  · rw [if_neg c]
    obtain ⟨r, w1, w2⟩ := x_was N hN (v := v) hk hG hq hs hr hc hg h (fun r hr' => ⟨(cbs r (by omega)).1, (cbs r (by omega)).2.1⟩) ck0
    have w3 : r = 0 ↔ cntB D gr arg' k s = true := by
      rw [w2, ci]
      constructor
      · intro z
        right
        intro i hi hgi hci hv
        rw [cne i s (Or.inl hi)] at hci
        refine z i hi (hgi.trans hg) (((cbs i (by omega)).2.2 s hs).mpr hci) ?_
        rw [A2 i s (by omega) hs hci]
        rw [harg, upA_ne (by omega)] at hv
        rw [hv]; rfl
      · intro z y hy hgy hty hny
        rcases z with z | z
        · exact c (k2.mpr z)
        · have hcy := ((cbs y (by omega)).2.2 s hs).mp hty
          refine z y hy (hgy.trans hg.symm) (by rw [cne y s (Or.inl hy)]; exact hcy) ?_
          rw [A2 y s (by omega) hs hcy] at hny
          obtain ⟨u, hu⟩ := cnt_some hcy
          rw [harg, upA_ne (by omega), hu]
          rw [hu] at hny
          have hny : u = v := hny
          rw [hny]
    rw [w1, bd_eq]
    by_cases c2 : r = 0
    · rw [if_pos c2]
      exact finC (w3.mp c2)
    · rw [if_neg c2]
      have nc : cntB D gr arg' k s = false := by
        cases z : cntB D gr arg' k s
        · rfl
        · exact absurd (w3.mpr z) c2
      exact ⟨0, σ, rfl, ⟨XG.rfl, fun _ => rfl, fun _ _ _ => rfl, fun _ _ _ => rfl⟩, Or.inl ⟨rfl, skip nc, fun z => by rw [nc] at z; cases z⟩⟩

