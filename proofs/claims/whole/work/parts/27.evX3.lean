/-! X works a tree out: the whole tree (own rows) -/
def VX (N : Nat) (g : Bool) (σ : St) (e d fu : Nat) (r : Rs) (z : Prop) : Prop := ∀ l, ∃ l', f_ev N g fu 0 (wL σ l) (nI e) (nI d) = some (vc r, wL σ l') ∧ (∀ v, r = .ok (some v) → l' 0 = v) ∧ (r = .ok none → z → l' 0 = 0)
def TrX (N : Nat) (g : Bool) (σ : St) (e d fu : Nat) (r : Rs) : Prop := ∀ l, ∃ l', f_ev N g fu 1 (wL σ l) (nI e) (nI d) = some (tc r, wL σ l')
theorem k_ne {k j : Nat} (hk : k < 2 ^ 31) (hj : j < 2 ^ 31) (h : k ≠ j) : ¬ nI k = nI j := fun z => h ((nI_eq hk hj).mp z)
theorem ev_X (N : Nat) (g : Bool) {σ ρ : St} {n m : Nat} {τ : Nat → Tr} (hE : IvE σ ρ n m τ) {P Q : Nat → Prop} {C A : Nat → Option Int64}
    (hC : ∀ b, P b → b < 12 → ∀ l, ∃ l', f_V_lookUp N (wL σ l) (nI b) = some (vc (.ok (C b)), wL σ l') ∧ (∀ v, C b = some v → l' 0 = v) ∧ (C b = none → l' = l))
    (hA : ∀ s, Q s → s < m → ∀ l, ∃ l', f_V_ofGroup N g (wL σ l) (nI s) = some (vc (.ok (A s)), wL σ l') ∧ ∀ v, A s = some v → l' 0 = v)
    (bC : ∀ b, P b → ∀ z, C b = some z → okF z) (bA : ∀ s, Q s → ∀ z, A s = some z → okF z) :
    ∀ (t : Tr) (e d fu : Nat), e < n → τ e = t → tall P Q t → tsz t + d ≤ 60 → 2 * tsz t ≤ fu → (¬ tru t → VX N g σ e d fu (sem nL C A t) (tab t = 0)) ∧ (tru t → TrX N g σ e d fu (sem nL C A t)) := by
  have sok : ∀ t, twf t → tall P Q t → Rok t (sem nL C A t) := sem_ok (fun t v q => by cases q) bC bA
  have hn := hE.2.2.1
  have h60 := hE.1
  have hp := hE.2.2.2.2.2.2.1
  have leaf : ∀ {t : Tr} {e d fu : Nat}, e < n → τ e = t → tsz t + d ≤ 60 → 2 * tsz t ≤ fu → XE σ τ e t ∧ twf t ∧ d < 60 ∧ ∃ fu', fu = fu' + 1 ∧ 2 * tsz t ≤ fu' + 1 := by
    intro t e d fu he ht hd hfu
    have := tsz_pos t
    obtain ⟨a1, -, a3, -⟩ := hp e he
    rw [ht] at a1 a3
    exact ⟨a1, a3, by omega, fu - 1, by omega, by omega⟩
  intro t
  induction t using sem.induct with
  | case1 =>
    intro e d fu he ht _ hd hfu
    obtain ⟨x, w, d60, fu', rfl, -⟩ := leaf he ht hd hfu
    refine ⟨fun _ l => ?_, fun z => absurd z (fun z => z)⟩
    rw [x_value hn h60 he d60, show ga σ 3 e = 14 from x.1, if_neg (by decide), if_pos rfl]
    exact ⟨_, by simp only [sem]; rfl, (fun v q => by simp only [sem, nL, orL] at q; cases q), fun _ _ => by rw [updL_at, if_pos rfl]⟩
  | case2 k =>
    intro e d fu he ht _ hd hfu
    obtain ⟨x, w, d60, fu', rfl, -⟩ := leaf he ht hd hfu
    refine ⟨fun _ l => ?_, fun z => absurd z (fun z => z)⟩
    rw [x_value hn h60 he d60, show ga σ 3 e = 13 from x.1, if_pos rfl]
    refine ⟨_, by simp only [sem]; rfl, fun v q => ?_, fun q => (by simp only [sem, nL, orL] at q; cases q)⟩
    simp only [sem, nL, orL] at q
    cases q
    rw [updL_at, if_pos rfl, ← x.2.1, vl_cn]
  | case3 b =>
    intro e d fu he ht hP hd hfu
    obtain ⟨x, w, d60, fu', rfl, -⟩ := leaf he ht hd hfu
    refine ⟨fun _ l => ?_, fun z => absurd z (fun z => z)⟩
    rw [x_value hn h60 he d60, show ga σ 3 e = 15 from x.1, if_neg (by decide), if_neg (by decide), if_pos rfl, show gb σ 1 e = (nI b).toInt64 from x.2.1, i32_64]
    obtain ⟨l', q1, q2, q3⟩ := hC b hP w (vp_updL l 0 0)
    rw [q1, bd_eq]
    refine ⟨l', by simp only [sem]; rfl, fun v q => q2 v ?_, fun q _ => ?_⟩
    · simp only [sem, nL, orL] at q
      exact Except.ok.inj q
    · simp only [sem, nL, orL] at q
      rw [q3 (Except.ok.inj q), updL_at, if_pos rfl]
  | case4 c a =>
    intro e d fu he ht hP hd hfu
    obtain ⟨x, w, d60, fu', rfl, -⟩ := leaf he ht hd hfu
    refine ⟨fun _ l => ?_, fun z => absurd z (fun z => z)⟩
    rw [x_value hn h60 he d60, show ga σ 3 e = 16 from x.1, if_neg (by decide), if_neg (by decide), if_neg (by decide), if_pos rfl, show gb σ 1 e = (nI (c % 8)).toInt64 from x.2.1, i32_64]
    obtain ⟨l', q1, q2⟩ := hA (c % 8) hP.1 ((hp e he).2.2.2.2.1 c a ht) (vp_updL l 0 0)
    rw [q1, bd_eq]
    refine ⟨l', by simp only [sem]; rfl, fun v q => q2 v ?_, fun _ z => absurd z (Nat.ne_of_gt (Nat.two_pow_pos (c % 8)))⟩
    simp only [sem, nL, orL] at q
    exact Except.ok.inj q
  | case5 a k ih =>
    intro e d fu he ht hP hd hfu
    obtain ⟨x, w, d60, fu', rfl, hfu'⟩ := leaf he ht hd hfu
    refine ⟨fun z => absurd trivial z, fun _ l => ?_⟩
    obtain ⟨x1, x2, i, hi, f1, f2, hti⟩ := x
    have sz : tsz (.mulR a k) = 1 + tsz a := by simp only [tsz]
    have se : sem nL C A (.mulR a k) = un k (sem nL C A a) := by simp only [sem]; rfl
    have IH := ih i (d + 1) fu' (by omega) hti hP (by omega) (by omega)
    have ok := sok a w.2 hP
    rw [x_truth hn h60 he d60, x1, f1, se]
    rcases w.1 with ⟨rfl, ta⟩ | ⟨rfl, ta⟩
    · rw [if_neg (by decide), if_neg (by decide), if_pos (show nI 11 = 11 from rfl)]
      obtain ⟨l', q1⟩ := IH.2 ta l
      rw [q1, bd_eq]
      rcases tc_cases ta ok with ⟨e1, q, he1⟩ | q | q | q <;> rw [q]
      · refine ⟨l', ?_⟩
        rw [show tc (.error e1) = e1 from rfl, if_neg (by rcases he1 with rfl | rfl <;> decide), if_neg (by rcases he1 with rfl | rfl <;> decide)]
        rfl
      · exact ⟨l', rfl⟩
      · exact ⟨l', rfl⟩
      · exact ⟨l', rfl⟩
    · rw [if_neg (by decide), if_neg (by decide), if_neg (by decide), if_pos (show nI 12 = 12 from rfl)]
      obtain ⟨l', q1, -⟩ := IH.1 ta l
      rw [q1, bd_eq]
      cases q : sem nL C A a with
      | error e1 =>
        refine ⟨l', ?_⟩
        rw [if_neg (show ¬ (0 : Int32) ≤ vc (.error e1) from (err_neg (ok.1 e1 q)).1)]
        rfl
      | ok v => cases v <;> exact ⟨l', rfl⟩
  | case6 k a b iha ihb =>
    intro e d fu he ht hP hd hfu
    obtain ⟨x, w, d60, fu', rfl, hfu'⟩ := leaf he ht hd hfu
    obtain ⟨x1, x2, i, j, hi, hj, f1, f2, hti, htj⟩ := x
    have sz : tsz (.add (.mulL k a) b) = 1 + tsz a + tsz b := by simp only [tsz]
    have := tsz_pos a
    have := tsz_pos b
    have se : sem nL C A (.add (.mulL k a) b) = bi k (sem nL C A a) (sem nL C A b) := by simp only [sem]; rfl
    obtain ⟨fu2, rfl⟩ : ∃ q, fu' = q + 1 := ⟨fu' - 1, by omega⟩
    have IA := iha i (d + 1) fu2 (by omega) hti hP.1 (by omega) (by omega)
    have IB := ihb j (d + 1) fu2 (by omega) htj hP.2 (by omega) (by omega)
    have oka := sok a w.2.2.2.1 hP.1
    have okb := sok b w.2.2.2.2 hP.2
    obtain ⟨k10, wa, wb, -, -⟩ := w
    rw [se]
    refine ⟨fun nt l => ?_, fun yt l => ?_⟩
    · have k5' : k < 5 := Nat.lt_of_not_le nt
      have na : ¬ tru a := fun z => by have := wa.mp z; omega
      have nb : ¬ tru b := fun z => by have := wb.mp z; omega
      obtain ⟨l', q1, q2, q3⟩ := x_opr (l := vp_updL l 0 0) (e := e) (by omega) f1 f2 oka.1 okb.1 (fun l => by obtain ⟨l', y1, y2, -⟩ := IA.1 na l; exact ⟨l', y1, y2⟩) (fun l => by obtain ⟨l', y1, y2, -⟩ := IB.1 nb l; exact ⟨l', y1, y2⟩)
      rw [x_value hn h60 he d60, x1, if_neg (show ¬ nI k = (13 : Int32) from k_ne (j := 13) (by omega) (by decide) (by omega)), if_neg (show ¬ nI k = (14 : Int32) from k_ne (j := 14) (by omega) (by decide) (by omega)), if_neg (show ¬ nI k = (15 : Int32) from k_ne (j := 15) (by omega) (by decide) (by omega)), if_neg (show ¬ nI k = (16 : Int32) from k_ne (j := 16) (by omega) (by decide) (by omega)), q1, bd_eq]
      cases ra : sem nL C A a with
      | error e1 =>
        rw [if_neg (show ¬ opc (.error e1) _ = 1 from fun z => (by have z : e1 = 1 := z; rcases oka.1 e1 ra with y | y <;> rw [y] at z <;> exact absurd z (by decide)))]
        exact ⟨l', rfl, fun v q => (by cases q), fun q => (by cases q)⟩
      | ok u =>
        have nst : ¬ ((k = 9 ∧ u = some 0) ∨ (k = 10 ∧ u = some 1)) := by omega
        cases rb : sem nL C A b with
        | error e1 =>
          have eo : opc (.ok u) (.error e1) = e1 := by cases u <;> rfl
          rw [eo, if_neg (show ¬ e1 = 1 from fun z => (by rcases okb.1 e1 rb with y | y <;> rw [y] at z <;> exact absurd z (by decide)))]
          refine ⟨l', ?_, fun v q => ?_, fun q => ?_⟩
          · simp only [bi, if_neg nst]
            cases u <;> rfl
          · simp only [bi, if_neg nst] at q
            cases q
          · simp only [bi, if_neg nst] at q
            cases q
        | ok v =>
          have eb : bi k (.ok u) (.ok v) = cmb k u v := by simp only [bi, if_neg nst]
          have c9 : ¬ k = 9 := by omega
          have c10 : ¬ k = 10 := by omega
          rw [eb]
          unfold cmb
          rw [if_neg c9, if_neg c10]
          cases u with
          | none =>
            cases v with
            | none => exact ⟨l', by simp only [if_pos k5']; rfl, fun z q => (by simp only [if_pos k5'] at q; cases q), fun _ _ => q3 _ _ ra rb (Or.inl rfl)⟩
            | some v => exact ⟨l', by simp only [if_pos k5']; rfl, fun z q => (by simp only [if_pos k5'] at q; cases q), fun _ _ => q3 _ _ ra rb (Or.inl rfl)⟩
          | some u =>
            cases v with
            | none => exact ⟨l', by simp only [if_pos k5']; rfl, fun z q => (by simp only [if_pos k5'] at q; cases q), fun _ _ => q3 _ _ ra rb (Or.inr rfl)⟩
            | some v =>
              simp only [if_pos k5']
              rw [if_pos (show opc (.ok (some u)) (.ok (some v)) = 1 from rfl), show ga (wL σ l') 3 e = nI k from x1]
              obtain ⟨y1, y2⟩ := q2 u v ra rb
              rw [show gl (wL σ l') 1 = u from y1, show gl (wL σ l') 0 = v from y2]
              obtain ⟨l2, z1, z2⟩ := x_calc (N := N) (σ := σ) (l := l') (k := k) k5' (oka.2.2 na u ra) (okb.2.2 nb v rb)
              rw [z1, bd_eq]
              refine ⟨l2, rfl, z2, fun q => ?_⟩
              obtain ⟨z, e, -⟩ := (rk_ok (k := k) (oka.2.2 na u ra) (okb.2.2 nb v rb)).2 _ q
              cases e
    · have k5' : 5 ≤ k := yt
      rw [x_truth hn h60 he d60, x1]
      by_cases c9 : 9 ≤ k
      · have ta := wa.mpr c9
        have tb := wb.mpr c9
        obtain ⟨l', q⟩ := x_junction (N := N) (g := g) (σ := σ) (e := e) (d := d) (fu := fu2) (l := l) (k := k) (by omega) (by omega) x1 f1 f2 ta tb oka okb (IA.2 ta) (IB.2 tb)
        have e41 : f_V_truth_41 N g (f_ev N g (fu2 + 1)) (wL σ l) (nI e) (nI d) = some (tc (bi k (sem nL C A a) (sem nL C A b)), wL σ l') := by
          unfold f_V_truth_41
          rw [q, bd_eq]
        by_cases c : k = 9
        · rw [if_pos (show nI k = 9 by rw [c]; rfl)]; exact ⟨l', e41⟩
        · rw [if_neg (show ¬ nI k = (9 : Int32) from k_ne (j := 9) (by omega) (by decide) c), if_pos (show nI k = 10 by rw [show k = 10 by omega]; rfl)]; exact ⟨l', e41⟩
      · have na : ¬ tru a := fun z => c9 (wa.mp z)
        have nb : ¬ tru b := fun z => c9 (wb.mp z)
        obtain ⟨l', q1, q2, -⟩ := x_opr (l := l) (e := e) (by omega) f1 f2 oka.1 okb.1 (fun l => by obtain ⟨l', y1, y2, -⟩ := IA.1 na l; exact ⟨l', y1, y2⟩) (fun l => by obtain ⟨l', y1, y2, -⟩ := IB.1 nb l; exact ⟨l', y1, y2⟩)
        rw [if_neg (show ¬ nI k = (9 : Int32) from k_ne (j := 9) (by omega) (by decide) (by omega)), if_neg (show ¬ nI k = (10 : Int32) from k_ne (j := 10) (by omega) (by decide) (by omega)), if_neg (show ¬ nI k = (11 : Int32) from k_ne (j := 11) (by omega) (by decide) (by omega)), if_neg (show ¬ nI k = (12 : Int32) from k_ne (j := 12) (by omega) (by decide) (by omega)), q1, bd_eq]
        cases ra : sem nL C A a with
        | error e1 =>
          rw [if_neg (show ¬ (0 : Int32) ≤ opc (.error e1) _ from (err_neg (oka.1 e1 ra)).1)]
          exact ⟨l', rfl⟩
        | ok u =>
          have nst : ¬ ((k = 9 ∧ u = some 0) ∨ (k = 10 ∧ u = some 1)) := by omega
          cases rb : sem nL C A b with
          | error e1 =>
            have eo : opc (.ok u) (.error e1) = e1 := by cases u <;> rfl
            rw [eo, if_neg (err_neg (okb.1 e1 rb)).1]
            refine ⟨l', ?_⟩
            simp only [bi, if_neg nst]
            rfl
          | ok v =>
            have eb : bi k (.ok u) (.ok v) = cmb k u v := by simp only [bi, if_neg nst]
            have c9' : ¬ k = 9 := by omega
            have c10 : ¬ k = 10 := by omega
            have n5 : ¬ k < 5 := by omega
            rw [eb]
            unfold cmb
            rw [if_neg c9', if_neg c10]
            cases u with
            | none =>
              cases v with
              | none => exact ⟨l', by simp only [if_neg n5]; rfl⟩
              | some v => exact ⟨l', by simp only [if_neg n5]; rfl⟩
            | some u =>
              cases v with
              | none => exact ⟨l', by simp only [if_neg n5]; rfl⟩
              | some v =>
                simp only [if_neg n5]
                rw [if_pos (show (0 : Int32) ≤ opc (.ok (some u)) (.ok (some v)) from (by decide : (0 : Int32) ≤ 1)), if_neg (show ¬ opc (.ok (some u)) (.ok (some v)) = 0 from (by decide : ¬ (1 : Int32) = 0))]
                obtain ⟨y1, y2⟩ := q2 u v ra rb
                rw [show gl (wL σ l') 1 = u from y1, show gl (wL σ l') 0 = v from y2]
                obtain ⟨r, z1, z2⟩ := x_cmp (N := N) (σ := wL σ l') (k := k) (x := u) (y := v) k5' (by omega)
                rw [z1, bd_eq]
                refine ⟨l', ?_⟩
                show _ = some ((cp k u v).toInt32, wL σ l')
                rw [← z2]
                by_cases c : r = 0
                · rw [if_pos c, if_pos c]
                · rw [if_neg c, if_neg c]
  | case7 t h1 h2 h3 h4 h5 h6 =>
    intro e d fu he ht hP hd hfu
    obtain ⟨x, w, d60, fu', rfl, -⟩ := leaf he ht hd hfu
    exfalso
    rcases tcases w with rfl | ⟨n, hn, rfl⟩ | ⟨i, hi, rfl⟩ | ⟨k, a, b, hk, rfl⟩ | ⟨k, a, hk, rfl⟩ | ⟨c, a, hc, hq, rfl⟩
    · exact h1 rfl
    · exact h2 n rfl
    · exact h3 i rfl
    · exact h6 k a b rfl
    · exact h5 a k rfl
    · exact h4 c a rfl

