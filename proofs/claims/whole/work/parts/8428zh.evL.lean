/-! M works a tree out where groups stand for parts of it: only what is reached counts (own rows) -/
def rch (L : Tr → Option (Option Int64)) (P Q : Nat → Prop) : Tr → Prop
  | .var b => L (.var b) = none → P b
  | .mulL c a => L (.mulL c a) = none → Q (c % 8)
  | .mulR a k => L (.mulR a k) = none → rch L P Q a
  | .add (.mulL k a) b => L (.add (.mulL k a) b) = none → rch L P Q a ∧ rch L P Q b
  | _ => True
theorem sem_okL {L : Tr → Option (Option Int64)} {C A : Nat → Option Int64} {P Q : Nat → Prop} (hL : ∀ t v, L t = some v → ¬ tru t ∧ ∀ z, v = some z → okF z) (bC : ∀ b, P b → ∀ z, C b = some z → okF z) (bA : ∀ s, Q s → ∀ z, A s = some z → okF z) : ∀ t, twf t → rch L P Q t → Rok t (sem L C A t)
  | .num 0, _, _ => by unfold sem; exact orL_ok (hL _) (val_ok (fun z => z) (fun z q => (by cases q)))
  | .num (n + 1), w, _ => by unfold sem; exact orL_ok (hL _) (val_ok (fun z => z) (fun z q => (by cases q; exact okz_F w.2)))
  | .var b, _, p => by
    have p' : L (.var b) = none → P b := p
    unfold sem
    cases h : L (.var b) with
    | some v => exact orL_ok (fun v q => hL (.var b) v (h.trans q)) (r := .ok none) (val_ok (fun z => z) (fun z q => (by cases q)))
    | none => exact val_ok (fun z => z) (bC b (p' h))
  | .mulL c a, _, p => by
    have p' : L (.mulL c a) = none → Q (c % 8) := p
    unfold sem
    cases h : L (.mulL c a) with
    | some v => exact orL_ok (fun v q => hL (.mulL c a) v (h.trans q)) (r := .ok none) (val_ok (fun z => z) (fun z q => (by cases q)))
    | none => exact val_ok (fun z => z) (bA _ (p' h))
  | .mulR a k, w, p => by
    have p' : L (.mulR a k) = none → rch L P Q a := p
    unfold sem
    cases h : L (.mulR a k) with
    | some v => exact absurd trivial (hL (.mulR a k) v h).1
    | none => exact un_ok (sem_okL hL bC bA a w.2 (p' h))
  | .add (.mulL k a) b, w, p => by
    have p' : L (.add (.mulL k a) b) = none → rch L P Q a ∧ rch L P Q b := p
    unfold sem
    cases h : L (.add (.mulL k a) b) with
    | some v =>
      have z := hL (.add (.mulL k a) b) v h
      refine ⟨fun e q => (by cases q), fun q => absurd q z.1, fun _ v' q => ?_⟩
      cases q
      exact z.2 v' rfl
    | none => exact bi_ok w (sem_okL hL bC bA a w.2.2.2.1 (p' h).1) (sem_okL hL bC bA b w.2.2.2.2 (p' h).2)
theorem ev_L (N : Nat) {σ ρ0 : St} {n m : Nat} {τ : Nat → Tr} (hE : IvE σ ρ0 n m τ) {P Q : Nat → Prop} {L : Tr → Option (Option Int64)} {C A : Nat → Option Int64} (hL : ∀ ρ, MF ρ0 ρ → HL N ρ n τ L) (oL : ∀ t v, L t = some v → ¬ tru t ∧ ∀ z, v = some z → okF z)
    (hC : ∀ b e, P b → e < n → τ e = .var b → ∀ ρ p, MF ρ0 ρ → p < 64 → gi ρ 20 = nI p → ∃ x fl, f_M_giveColumn N ρ (nI e) = some ((), gvs ρ p x fl) ∧ ((C b = none ∧ fl = 1) ∨ (C b = some x ∧ fl = 0)))
    (hA : ∀ c a e, Q (c % 8) → e < n → τ e = .mulL c a → ∀ ρ p, MF ρ0 ρ → p < 64 → gi ρ 20 = nI p → ∃ x fl, f_M_giveAggregate N ρ (nI e) = some ((), gvs ρ p x fl) ∧ ((A (c % 8) = none ∧ fl = 1) ∨ (A (c % 8) = some x ∧ fl = 0)))
    (bC : ∀ b, P b → ∀ z, C b = some z → okF z) (bA : ∀ s, Q s → ∀ z, A s = some z → okF z) :
    ∀ (t : Tr) (e k p : Nat) (ρ : St), e < n → τ e = t → rch L P Q t → MF ρ0 ρ → gi ρ 19 = nI (k + 1) → ga ρ 24 k = nI e → ga ρ 25 k = 0 → gi ρ 20 = nI p → gi ρ 14 = 0 → k + tsz t ≤ 64 → p + tsz t ≤ 64 → ∃ s, s ≤ 3 * tsz t ∧ MR N ρ k p s (sem L C A t) := by
  have sok : ∀ t, twf t → rch L P Q t → Rok t (sem L C A t) := sem_okL oL bC bA
  have h60 := hE.1
  have hp := hE.2.2.2.2.2.2.1
  have leaf : ∀ {t : Tr} {e : Nat} {ρ : St}, e < n → τ e = t → MF ρ0 ρ → ME ρ τ e t ∧ twf t := by
    intro t e ρ he ht mf
    have hE' : IvE σ ρ n m τ := ivE_same SX.rfl mf.sm hE
    obtain ⟨-, a2, a3, -⟩ := hE'.2.2.2.2.2.2.1 e he
    rw [ht] at a2 a3
    exact ⟨a2, a3⟩
  have like : ∀ {t : Tr} {e k p : Nat} {ρ : St}, e < n → τ e = t → MF ρ0 ρ → gi ρ 19 = nI (k + 1) → ga ρ 24 k = nI e → gi ρ 20 = nI p → gi ρ 14 = 0 → k < 64 → p < 64 → ∀ v, L t = some v → MR N ρ k p 1 (.ok v) := by
    intro t e k p ρ he ht mf ho ha htp hw hk hp' v hv
    rcases m_look (hL ρ mf) hk he h60 ho ha with ⟨q, -⟩ | ⟨v', x, fl, q1, q2, q3⟩
    · rw [ht, hv] at q; cases q
    · rw [ht, hv] at q1
      cases q1
      rw [m_give hp' htp, bd_eq] at q3
      exact m_fin hk hp' ho hw q3 q2
  intro t
  induction t using sem.induct with
  | case1 =>
    intro e k p ρ he ht hP mf ho ha hs htp hw hk hpp
    refine ⟨1, by simp [tsz], ?_⟩
    have k64 : k < 64 := by have := tsz_pos (.num 0); omega
    have p64 : p < 64 := by have := tsz_pos (.num 0); omega
    simp only [sem]
    cases hl : L (.num 0) with
    | some v => exact like he ht mf ho ha htp hw k64 p64 v hl
    | none =>
      obtain ⟨x, w⟩ := leaf he ht mf
      obtain ⟨r, r0, e1⟩ := m_look0 (hL ρ mf) k64 he h60 ho ha (by rw [ht]; exact hl)
      have e2 : f_M_lookOnce N ρ = some ((), si (gvs ρ p 0 1) 19 (gi (gvs ρ p 0 1) 19 - 1)) := by
        rw [e1]
        unfold f_M_lookOnce_37 f_M_lookOnce_115
        rw [if_pos r0, if_pos x.1, ckb_nI (show e < 60 by omega) (by decide), nI_clamp (show e < 2 ^ 31 by omega), if_neg (show ¬ ga ρ 6 e = 0 by rw [x.2]; decide), ckb_nI (show e < 60 by omega) (by decide), x.2, m_give p64 htp, bd_eq]
        rfl
      exact m_fin k64 p64 ho hw e2 (Or.inl ⟨rfl, rfl⟩)
  | case2 q =>
    intro e k p ρ he ht hP mf ho ha hs htp hw hk hpp
    refine ⟨1, by simp [tsz], ?_⟩
    have k64 : k < 64 := by have := tsz_pos (.num q.succ); omega
    have p64 : p < 64 := by have := tsz_pos (.num q.succ); omega
    simp only [sem]
    cases hl : L (.num (q + 1)) with
    | some v => exact like he ht mf ho ha htp hw k64 p64 v hl
    | none =>
      obtain ⟨x, w⟩ := leaf he ht mf
      obtain ⟨r, r0, e1⟩ := m_look0 (hL ρ mf) k64 he h60 ho ha (by rw [ht]; exact hl)
      have e2 : f_M_lookOnce N ρ = some ((), si (gvs ρ p (vl q) 0) 19 (gi (gvs ρ p (vl q) 0) 19 - 1)) := by
        rw [e1]
        unfold f_M_lookOnce_37 f_M_lookOnce_115
        rw [if_pos r0, if_pos x.1, ckb_nI (show e < 60 by omega) (by decide), nI_clamp (show e < 2 ^ 31 by omega), if_pos x.2.1, ckb_nI (show e < 60 by omega) (by decide), ckb_nI (show e < 60 by omega) (by decide), x.2.1, ← x.2.2, vl_cn, m_give p64 htp, bd_eq]
        rfl
      exact m_fin k64 p64 ho hw e2 (Or.inr ⟨rfl, rfl⟩)
  | case3 b =>
    intro e k p ρ he ht hP mf ho ha hs htp hw hk hpp
    refine ⟨1, by simp [tsz], ?_⟩
    have k64 : k < 64 := by have := tsz_pos (.var b); omega
    have p64 : p < 64 := by have := tsz_pos (.var b); omega
    simp only [sem]
    cases hl : L (.var b) with
    | some v => exact like he ht mf ho ha htp hw k64 p64 v hl
    | none =>
      obtain ⟨x, w⟩ := leaf he ht mf
      obtain ⟨r, r0, e1⟩ := m_look0 (hL ρ mf) k64 he h60 ho ha (by rw [ht]; exact hl)
      have hP' : L (.var b) = none → P b := hP
      obtain ⟨y, fl, q1, q2⟩ := hC b e (hP' hl) he ht ρ p mf p64 htp
      have e2 : f_M_lookOnce N ρ = some ((), si (gvs ρ p y fl) 19 (gi (gvs ρ p y fl) 19 - 1)) := by
        rw [e1]
        unfold f_M_lookOnce_37
        rw [if_pos r0, if_neg (show ¬ ga ρ 3 e = 20 by rw [x.1]; decide), if_pos x.1, q1, bd_eq]
        rfl
      exact m_fin k64 p64 ho hw e2 q2
  | case4 c a =>
    intro e k p ρ he ht hP mf ho ha hs htp hw hk hpp
    refine ⟨1, by simp [tsz]; omega, ?_⟩
    have k64 : k < 64 := by have := tsz_pos (.mulL c a); omega
    have p64 : p < 64 := by have := tsz_pos (.mulL c a); omega
    simp only [sem]
    cases hl : L (.mulL c a) with
    | some v => exact like he ht mf ho ha htp hw k64 p64 v hl
    | none =>
      obtain ⟨x, w⟩ := leaf he ht mf
      obtain ⟨r, r0, e1⟩ := m_look0 (hL ρ mf) k64 he h60 ho ha (by rw [ht]; exact hl)
      have hP' : L (.mulL c a) = none → Q (c % 8) := hP
      obtain ⟨y, fl, q1, q2⟩ := hA c a e (hP' hl) he ht ρ p mf p64 htp
      have c5 := w.2.1
      have e2 : f_M_lookOnce N ρ = some ((), si (gvs ρ p y fl) 19 (gi (gvs ρ p y fl) 19 - 1)) := by
        rw [e1]
        unfold f_M_lookOnce_37
        rw [if_pos r0, show ga ρ 3 e = nI (30 + c / 8 % 8) from x.1, if_neg (show ¬ nI (30 + c / 8 % 8) = (20 : Int32) from k_ne (j := 20) (by omega) (by decide) (by omega)), if_neg (show ¬ nI (30 + c / 8 % 8) = (21 : Int32) from k_ne (j := 21) (by omega) (by decide) (by omega)), if_neg (show ¬ nI (30 + c / 8 % 8) < (30 : Int32) from nI_nlt (b := 30) (by omega) (by omega)), q1, bd_eq]
        rfl
      exact m_fin k64 p64 ho hw e2 q2
  | case5 a kk ih =>
    intro e k p ρ he ht hP mf ho ha hs htp hw hk hpp
    have sz : tsz (.mulR a kk) = 1 + tsz a := by simp only [tsz]
    have := tsz_pos a
    simp only [sem]
    cases hl : L (.mulR a kk) with
    | some v => exact ⟨1, by omega, like he ht mf ho ha htp hw (by omega) (by omega) v hl⟩
    | none =>
      show ∃ s, s ≤ 3 * tsz (.mulR a kk) ∧ MR N ρ k p s (un kk (sem L C A a))
      obtain ⟨⟨x1, x2, i, hi, x3, x4⟩, w⟩ := leaf he ht mf
      have hQ' : L (.mulR a kk) = none → rch L P Q a := hP
      have hP := hQ' hl
      have hln : L (τ e) = none := by rw [ht]; exact hl
      have k12 : kk ≤ 12 := by rcases w.1 with q | q <;> omega
      have st1 := m_open1 (hL ρ mf) (by omega) he h60 ho ha hw hln k12 x1 x3 hs
      obtain ⟨ρ1, hρ1⟩ : ∃ ρ1, ρ1 = phs (wa ρ 25 (nI k) 1) (k + 1) (nI i) := ⟨_, rfl⟩
      rw [← hρ1] at st1
      have mf1 : MF ρ ρ1 := by rw [hρ1]; exact mf_state.trans mf_phs
      have low1 : Low ρ ρ1 k p := by rw [hρ1]; exact (low_st (by omega)).trans (low_phs (by omega)) (Nat.le_succ k) (Nat.le_refl p)
      have at1 : ga ρ1 24 k = nI e := by rw [hρ1]; exact (updl (f := ga ρ 24) (by omega) (by omega)).trans ha
      have stt1 : ga ρ1 25 k = 1 := by rw [hρ1]; exact st_phs2 (by omega)
      obtain ⟨s, hs', M1⟩ := ih i (k + 1) p ρ1 (by omega) x4 hP (mf.trans mf1) (by rw [hρ1]; rfl) (by rw [hρ1]; exact updn (f := ga ρ 24) (by omega)) (by rw [hρ1]; exact updn (by omega)) (by rw [hρ1]; exact htp) (by rw [hρ1]; exact hw) (by omega) (by omega)
      have oka := sok a w.2 hP
      cases ra : sem L C A a with
      | error er =>
        rw [ra] at M1
        exact ⟨1 + s, by omega, mr_err st1 mf1 low1 (Nat.le_succ k) (Nat.le_refl p) M1⟩
      | ok v =>
        rw [ra] at M1
        obtain ⟨ρ2, mf2, low2, go2, ho2, ht2, hw2, gv2⟩ := M1
        have mf02 := (mf.trans mf1).trans mf2
        obtain ⟨⟨y1, -⟩, -⟩ := leaf he ht mf02
        have at2 : ga ρ2 24 k = nI e := ((low2.1 k (by omega)).1).trans at1
        have stt2 : ga ρ2 25 k = 1 := ((low2.1 k (by omega)).2).trans stt1
        have go12 : ∀ fu, f_M_workOut_15 N ((1 + s) + fu) ρ = f_M_workOut_15 N fu ρ2 := fun fu => by rw [Nat.add_assoc, st1]; exact go2 fu
        have low12 : Low ρ ρ2 k p := low1.trans low2 (Nat.le_succ k) (Nat.le_refl p)
        refine ⟨(1 + s) + 1, by omega, mr_ok go12 (mf1.trans mf2) low12 ?_⟩
        rcases w.1 with ⟨rfl, ta⟩ | ⟨rfl, ta⟩
        · exact m_not (hL ρ2 mf02) (by omega) (by omega) he h60 ho2 at2 hw2 hln y1 stt2 ht2 gv2 (oka.2.1 ta v ra)
        · exact m_isn (hL ρ2 mf02) (by omega) (by omega) he h60 ho2 at2 hw2 hln y1 stt2 ht2 gv2
  | case6 kk a b iha ihb =>
    intro e k p ρ he ht hP mf ho ha hs htp hw hk hpp
    have sz : tsz (.add (.mulL kk a) b) = 1 + tsz a + tsz b := by simp only [tsz]
    have := tsz_pos a
    have := tsz_pos b
    simp only [sem]
    cases hl : L (.add (.mulL kk a) b) with
    | some v => exact ⟨1, by omega, like he ht mf ho ha htp hw (by omega) (by omega) v hl⟩
    | none =>
      show ∃ s, s ≤ 3 * tsz (.add (.mulL kk a) b) ∧ MR N ρ k p s (bi kk (sem L C A a) (sem L C A b))
      obtain ⟨⟨x1, x2, i, j, hi, hj, x3, x3', x4, x4'⟩, w⟩ := leaf he ht mf
      have hQ' : L (.add (.mulL kk a) b) = none → rch L P Q a ∧ rch L P Q b := hP
      have hP := hQ' hl
      have hln : L (τ e) = none := by rw [ht]; exact hl
      have oka := sok a w.2.2.2.1 hP.1
      have okb := sok b w.2.2.2.2 hP.2
      obtain ⟨k10, wa', wb', -, -⟩ := w
      have st1 := m_open1 (hL ρ mf) (by omega) he h60 ho ha hw hln (by omega) x1 x3 hs
      obtain ⟨ρ1, hρ1⟩ : ∃ ρ1, ρ1 = phs (wa ρ 25 (nI k) 1) (k + 1) (nI i) := ⟨_, rfl⟩
      rw [← hρ1] at st1
      have mf1 : MF ρ ρ1 := by rw [hρ1]; exact mf_state.trans mf_phs
      have low1 : Low ρ ρ1 k p := by rw [hρ1]; exact (low_st (by omega)).trans (low_phs (by omega)) (Nat.le_succ k) (Nat.le_refl p)
      have at1 : ga ρ1 24 k = nI e := by rw [hρ1]; exact (updl (f := ga ρ 24) (by omega) (by omega)).trans ha
      have stt1 : ga ρ1 25 k = 1 := by rw [hρ1]; exact st_phs2 (by omega)
      obtain ⟨s, hs', M1⟩ := iha i (k + 1) p ρ1 (by omega) x4 hP.1 (mf.trans mf1) (by rw [hρ1]; rfl) (by rw [hρ1]; exact updn (f := ga ρ 24) (by omega)) (by rw [hρ1]; exact updn (by omega)) (by rw [hρ1]; exact htp) (by rw [hρ1]; exact hw) (by omega) (by omega)
      cases ra : sem L C A a with
      | error er =>
        rw [ra] at M1
        exact ⟨1 + s, by omega, mr_err st1 mf1 low1 (Nat.le_succ k) (Nat.le_refl p) M1⟩
      | ok v =>
        rw [ra] at M1
        obtain ⟨ρ2, mf2, low2, go2, ho2, ht2, hw2, gv2⟩ := M1
        have mf02 := (mf.trans mf1).trans mf2
        obtain ⟨⟨y1, -, i', j', -, hj', -, y3, -, y4⟩, -⟩ := leaf he ht mf02
        have at2 : ga ρ2 24 k = nI e := ((low2.1 k (by omega)).1).trans at1
        have stt2 : ga ρ2 25 k = 1 := ((low2.1 k (by omega)).2).trans stt1
        have go12 : ∀ fu, f_M_workOut_15 N ((1 + s) + fu) ρ = f_M_workOut_15 N fu ρ2 := fun fu => by rw [Nat.add_assoc, st1]; exact go2 fu
        have low12 : Low ρ ρ2 k p := low1.trans low2 (Nat.le_succ k) (Nat.le_refl p)
        have v9 : 9 ≤ kk → v = some 0 ∨ v = some 1 ∨ v = some 2 := fun z => oka.2.1 (wa'.mpr z) v ra
        by_cases cs : (kk = 9 ∧ v = some 0) ∨ (kk = 10 ∧ v = some 1)
        · have eb : bi kk (.ok v) (sem L C A b) = .ok v := by unfold bi; simp only [if_pos cs]
          rw [eb]
          exact ⟨(1 + s) + 1, by omega, mr_ok go12 (mf1.trans mf2) low12 (m_settled (hL ρ2 mf02) (by omega) (by omega) he h60 ho2 at2 hw2 hln y1 stt2 ht2 gv2 cs)⟩
        · have st3 := m_open2 (hL ρ2 mf02) (by omega) (by omega) he h60 ho2 at2 hw2 hln k10 y1 y3 stt2 ht2 gv2 v9 cs
          obtain ⟨ρ3, hρ3⟩ : ∃ ρ3, ρ3 = phs (wa ρ2 25 (nI k) 2) (k + 1) (nI j') := ⟨_, rfl⟩
          rw [← hρ3] at st3
          have mf3 : MF ρ2 ρ3 := by rw [hρ3]; exact mf_state.trans mf_phs
          have low3 : Low ρ2 ρ3 k (p + 1) := by rw [hρ3]; exact (low_st (by omega)).trans (low_phs (by omega)) (Nat.le_succ k) (Nat.le_refl _)
          have at3 : ga ρ3 24 k = nI e := by rw [hρ3]; exact (updl (f := ga ρ2 24) (by omega) (by omega)).trans at2
          have stt3 : ga ρ3 25 k = 2 := by rw [hρ3]; exact st_phs2 (by omega)
          obtain ⟨s2, hs2, M2⟩ := ihb j' (k + 1) (p + 1) ρ3 (by omega) y4 hP.2 (mf02.trans mf3) (by rw [hρ3]; rfl) (by rw [hρ3]; exact updn (f := ga ρ2 24) (by omega)) (by rw [hρ3]; exact updn (by omega)) (by rw [hρ3]; exact ht2) (by rw [hρ3]; exact hw2) (by omega) (by omega)
          have go13 : ∀ fu, f_M_workOut_15 N (((1 + s) + 1) + fu) ρ = f_M_workOut_15 N fu ρ3 := fun fu => by rw [Nat.add_assoc, go12]; exact st3 fu
          have low13 : Low ρ ρ3 k p := low12.trans low3 (Nat.le_refl k) (Nat.le_succ p)
          have mf13 : MF ρ ρ3 := (mf1.trans mf2).trans mf3
          cases rb : sem L C A b with
          | error er =>
            rw [rb] at M2
            have eb : bi kk (.ok v) (.error er) = .error er := by unfold bi; simp only [if_neg cs]
            rw [eb]
            exact ⟨((1 + s) + 1) + s2, by omega, mr_err go13 mf13 low13 (Nat.le_succ k) (Nat.le_succ p) M2⟩
          | ok u =>
            rw [rb] at M2
            have eb : bi kk (.ok v) (.ok u) = cmb kk v u := by unfold bi; simp only [if_neg cs]
            rw [eb]
            obtain ⟨ρ4, mf4, low4, go4, ho4, ht4, hw4, gv4⟩ := M2
            have mf04 := (mf02.trans mf3).trans mf4
            obtain ⟨⟨z1, -⟩, -⟩ := leaf he ht mf04
            have at4 : ga ρ4 24 k = nI e := ((low4.1 k (by omega)).1).trans at3
            have stt4 : ga ρ4 25 k = 2 := ((low4.1 k (by omega)).2).trans stt3
            have go14 : ∀ fu, f_M_workOut_15 N ((((1 + s) + 1) + s2) + fu) ρ = f_M_workOut_15 N fu ρ4 := fun fu => by rw [Nat.add_assoc, go13]; exact go4 fu
            have low14 : Low ρ ρ4 k p := low13.trans low4 (Nat.le_succ k) (Nat.le_succ p)
            have gva : Gv ρ4 p v := gv_same (((low4.2 p (by omega)).1).trans ((low3.2 p (by omega)).1)) (((low4.2 p (by omega)).2).trans ((low3.2 p (by omega)).2)) gv2
            have c9 : 9 ≤ kk → (v = some 0 ∨ v = some 1 ∨ v = some 2) ∧ (u = some 0 ∨ u = some 1 ∨ u = some 2) := fun z => ⟨v9 z, okb.2.1 (wb'.mpr z) u rb⟩
            have c5 : kk < 5 → (∀ z, v = some z → okF z) ∧ (∀ z, u = some z → okF z) := fun h => ⟨fun z q => oka.2.2 (fun y => by have := wa'.mp y; omega) z (by rw [ra, q]), fun z q => okb.2.2 (fun y => by have := wb'.mp y; omega) z (by rw [rb, q])⟩
            have cok := cmb_ok (k := kk) (a := a) (b := b) (fun h => (c5 h).1) (fun h => (c5 h).2)
            refine ⟨(((1 + s) + 1) + s2) + 1, by omega, mr_ok go14 (mf13.trans mf4) low14 (m_both (hL ρ4 mf04) (by omega) (by omega) he h60 ho4 at4 hw4 hln k10 z1 stt4 ht4 gva gv4 c9 c5 ?_)⟩
            intro er q
            rcases cok.1 er q with rfl | rfl <;> decide
  | case7 t h1 h2 h3 h4 h5 h6 =>
    intro e k p ρ he ht hP mf ho ha hs htp hw hk hpp
    obtain ⟨x, w⟩ := leaf he ht mf
    exfalso
    rcases tcases w with rfl | ⟨n, hn, rfl⟩ | ⟨i, hi, rfl⟩ | ⟨k, a, b, hk, rfl⟩ | ⟨k, a, hk, rfl⟩ | ⟨c, a, hc, hq, rfl⟩
    · exact h1 rfl
    · exact h2 n rfl
    · exact h3 i rfl
    · exact h6 k a b rfl
    · exact h5 a k rfl
    · exact h4 c a rfl
theorem top_L (N : Nat) (hN : 200 < N) {σ ρ0 : St} {n m e : Nat} {τ : Nat → Tr} (hE : IvE σ ρ0 n m τ) {P Q : Nat → Prop} {L : Tr → Option (Option Int64)} {C A : Nat → Option Int64} (hL : ∀ ρ, MF ρ0 ρ → HL N ρ n τ L) (oL : ∀ t v, L t = some v → ¬ tru t ∧ ∀ z, v = some z → okF z)
    (hC : ∀ b e, P b → e < n → τ e = .var b → ∀ ρ p, MF ρ0 ρ → p < 64 → gi ρ 20 = nI p → ∃ x fl, f_M_giveColumn N ρ (nI e) = some ((), gvs ρ p x fl) ∧ ((C b = none ∧ fl = 1) ∨ (C b = some x ∧ fl = 0)))
    (hA : ∀ c a e, Q (c % 8) → e < n → τ e = .mulL c a → ∀ ρ p, MF ρ0 ρ → p < 64 → gi ρ 20 = nI p → ∃ x fl, f_M_giveAggregate N ρ (nI e) = some ((), gvs ρ p x fl) ∧ ((A (c % 8) = none ∧ fl = 1) ∨ (A (c % 8) = some x ∧ fl = 0)))
    (bC : ∀ b, P b → ∀ z, C b = some z → okF z) (bA : ∀ s, Q s → ∀ z, A s = some z → okF z) (he : e < n) (hP : rch L P Q (τ e)) (hw : gi ρ0 14 = 0) :
    ∃ ρ', f_M_workOut N ρ0 (nI e) = some ((), ρ') ∧ MF ρ0 ρ' ∧ Wk ρ' (sem L C A (τ e)) := by
  have s60 := (hE.2.2.2.2.2.2.1 e he).2.2.2.1
  obtain ⟨ρ1, hρ1⟩ : ∃ ρ1, ρ1 = phs (si (si ρ0 19 0) 20 0) 0 (nI e) := ⟨_, rfl⟩
  have mf1 : MF ρ0 ρ1 := by rw [hρ1]; exact (mf_open.trans mf_top).trans mf_phs
  have e0 : f_M_workOut N ρ0 (nI e) = f_M_workOut_15 N N ρ1 := by
    unfold f_M_workOut
    rw [nm_eq, nm_eq, m_push (k := 0) (by decide) (show gi (si (si ρ0 19 0) 20 0) 19 = nI 0 from rfl), bd_eq, hρ1]
  obtain ⟨s, hs, ρ', a1, a2, a3⟩ := ev_L N hE hL oL hC hA bC bA (τ e) e 0 0 ρ1 he rfl hP mf1 (by rw [hρ1]; rfl) (by rw [hρ1]; exact updn (n := 0) (f := ga ρ0 24) (by decide)) (by rw [hρ1]; unfold phs; rw [ga_si, ga_wa, if_pos rfl]; exact updn (n := 0) (by decide)) (by rw [hρ1]; rfl) (by rw [hρ1]; exact hw) (by omega) (by omega)
  refine ⟨ρ', ?_, mf1.trans a1, ?_⟩
  · rw [e0]
    obtain ⟨fu, hfu⟩ : ∃ fu, N = s + (fu + 1) := ⟨N - s - 1, by omega⟩
    have key : f_M_workOut_15 N (s + (fu + 1)) ρ1 = some ((), ρ') := by
      cases q : sem L C A (τ e) with
      | error er =>
        rw [q] at a3
        exact a3.1 (fu + 1) (by omega)
      | ok v =>
        rw [q] at a3
        obtain ⟨b1, b2, b3, b4, b5⟩ := a3
        rw [b1]
        show f_M_workOut_15_b N (f_M_workOut_15 N fu) ρ' = _
        unfold f_M_workOut_15_b
        rw [b2, if_pos (show nI 0 ≤ 0 by decide)]
    rw [← hfu] at key
    exact key
  · cases q : sem L C A (τ e) with
    | error er => rw [q] at a3; exact a3.2
    | ok v => rw [q] at a3; exact ⟨a3.2.2.2.1, a3.2.2.2.2⟩

