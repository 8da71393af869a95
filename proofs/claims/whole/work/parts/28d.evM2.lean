/-! M works a tree out: operators (own rows) -/
theorem m_not {N : Nat} {ρ : St} {n k e p : Nat} {τ : Nat → Tr} {L : Tr → Option (Option Int64)} {v : Option Int64} (hL : HL N ρ n τ L) (hk : k < 64) (hp : p < 64) (he : e < n) (h60 : n ≤ 60) (h : gi ρ 19 = nI (k + 1)) (ha : ga ρ 24 k = nI e) (hw : gi ρ 14 = 0) (hn : L (τ e) = none)
    (hkd : ga ρ 3 e = nI 11) (hs : ga ρ 25 k = 1) (ht : gi ρ 20 = nI (p + 1)) (gv : Gv ρ p v) (hv : v = some 0 ∨ v = some 1 ∨ v = some 2) : MR N ρ k p 1 (un 11 (.ok v)) := by
  have e0 := m_look1 hL hk he h60 h ha hn (by decide) hkd (by rw [hs]; decide)
  rw [if_pos (show nI 11 = 11 from rfl), ht, nI_pred, ckb_nI hp (by decide), nI_clamp (by omega)] at e0
  have e1 : ∃ w : Int64, un 11 (.ok v) = .ok (some w) ∧ f_M_lookOnce N ρ = some ((), si (wl ρ 6 (nI p) w) 19 (nI k)) := by
    have fin : ∀ w, f_M_lookOnce_262 N ρ w (nI p) = some ((), si (wl ρ 6 (nI p) w) 19 (nI k)) := by
      intro w
      unfold f_M_lookOnce_262
      rw [ckb_nI hp (by decide), nm_eq, nm_eq, show gi (wl ρ 6 (nI p) w) 19 = nI (k + 1) from h, nI_pred]
    rw [e0]
    simp only [fin]
    rcases hv with rfl | rfl | rfl <;> rw [gv.2]
    · exact ⟨1, rfl, rfl⟩
    · exact ⟨0, rfl, rfl⟩
    · exact ⟨2, rfl, rfl⟩
  obtain ⟨w, q1, q2⟩ := e1
  rw [q1]
  refine ⟨si (wl ρ 6 (nI p) w) 19 (nI k), mf_value.trans mf_open, ⟨fun _ _ => ⟨rfl, rfl⟩, fun q hq => ⟨updLl (f := gb ρ 6) (by omega) (by omega), rfl⟩⟩, ?_, rfl, ht, hw, ?_, updLn (f := gb ρ 6) (by omega)⟩
  · intro fu
    rw [Nat.add_comm, m_step hk h hw, q2, bd_eq]
  · rcases hv with rfl | rfl | rfl <;> exact gv.1
theorem m_isn {N : Nat} {ρ : St} {n k e p : Nat} {τ : Nat → Tr} {L : Tr → Option (Option Int64)} {v : Option Int64} (hL : HL N ρ n τ L) (hk : k < 64) (hp : p < 64) (he : e < n) (h60 : n ≤ 60) (h : gi ρ 19 = nI (k + 1)) (ha : ga ρ 24 k = nI e) (hw : gi ρ 14 = 0) (hn : L (τ e) = none)
    (hkd : ga ρ 3 e = nI 12) (hs : ga ρ 25 k = 1) (ht : gi ρ 20 = nI (p + 1)) (gv : Gv ρ p v) : MR N ρ k p 1 (un 12 (.ok v)) := by
  have e0 := m_look1 hL hk he h60 h ha hn (by decide) hkd (by rw [hs]; decide)
  rw [if_neg (show ¬ nI 12 = 11 by decide), if_pos (show nI 12 = 12 from rfl), ht, nI_pred, ckb_nI hp (by decide), nI_clamp (by omega)] at e0
  have tr : ∃ w : Int64, un 12 (.ok v) = .ok (some w) ∧ f_M_truthOf N ρ (ga ρ 26 p) = some (w, ρ) := by
    unfold f_M_truthOf
    cases v with
    | none => rw [if_neg (show ¬ ga ρ 26 p = 0 by rw [show ga ρ 26 p = 1 from gv]; decide)]; exact ⟨1, rfl, rfl⟩
    | some z => rw [if_pos gv.1]; exact ⟨0, rfl, rfl⟩
  obtain ⟨w, q1, q2⟩ := tr
  rw [q2, bd_eq, ckb_nI hp (by decide), nm_eq, show gi (wl ρ 6 (nI p) w) 20 = nI (p + 1) from ht, nI_pred, ckb_nI hp (by decide), nm_eq, nm_eq, show gi (wz (wl ρ 6 (nI p) w) 26 (nI p) 0) 19 = nI (k + 1) from h, nI_pred] at e0
  rw [q1]
  refine ⟨si (wz (wl ρ 6 (nI p) w) 26 (nI p) 0) 19 (nI k), (mf_value.trans mf_none).trans mf_open, ⟨fun _ _ => ⟨rfl, rfl⟩, fun q hq => ⟨updLl (f := gb ρ 6) (by omega) (by omega), updl (f := ga ρ 26) (by omega) (by omega)⟩⟩, ?_, rfl, ht, hw, updn (f := ga ρ 26) (by omega), updLn (f := gb ρ 6) (by omega)⟩
  intro fu
  rw [Nat.add_comm, m_step hk h hw, e0, bd_eq]
/-- a junction that is settled by its first part -/
theorem m_settled {N : Nat} {ρ : St} {n k e p kk : Nat} {τ : Nat → Tr} {L : Tr → Option (Option Int64)} {v : Option Int64} (hL : HL N ρ n τ L) (hk : k < 64) (hp : p < 64) (he : e < n) (h60 : n ≤ 60) (h : gi ρ 19 = nI (k + 1)) (ha : ga ρ 24 k = nI e) (hw : gi ρ 14 = 0) (hn : L (τ e) = none)
    (hkd : ga ρ 3 e = nI kk) (hs : ga ρ 25 k = 1) (ht : gi ρ 20 = nI (p + 1)) (gv : Gv ρ p v) (hv : (kk = 9 ∧ v = some 0) ∨ (kk = 10 ∧ v = some 1)) : MR N ρ k p 1 (.ok v) := by
  have e0 := m_look1 hL hk he h60 h ha hn (by omega) hkd (by rw [hs]; decide)
  have e1 : f_M_lookOnce_386 N ρ = some ((), si ρ 19 (nI k)) := by
    unfold f_M_lookOnce_386
    rw [nm_eq, h, nI_pred]
  have e2 : f_M_lookOnce N ρ = some ((), si ρ 19 (nI k)) := by
    rw [e0]
    rcases hv with ⟨rfl, rfl⟩ | ⟨rfl, rfl⟩
    · rw [if_neg (by decide), if_neg (by decide), if_pos hs, if_pos (show nI 9 = 9 from rfl), ht, nI_pred, ckb_nI hp (by decide), nI_clamp (by omega), gv.2, if_pos (by decide), e1]
    · rw [if_neg (by decide), if_neg (by decide), if_pos hs, if_neg (show ¬ nI 10 = 9 by decide)]
      unfold f_M_lookOnce_364
      rw [if_pos (show nI 10 = 10 from rfl), ht, nI_pred, ckb_nI hp (by decide), nI_clamp (by omega), gv.2, if_pos (by decide), e1]
  refine ⟨si ρ 19 (nI k), mf_open, ⟨fun _ _ => ⟨rfl, rfl⟩, fun _ _ => ⟨rfl, rfl⟩⟩, fun fu => ?_, rfl, ht, hw, gv⟩
  rw [Nat.add_comm, m_step hk h hw, e2, bd_eq]
/-- the second part is opened -/
theorem m_open2 {N : Nat} {ρ : St} {n k e p kk j : Nat} {τ : Nat → Tr} {L : Tr → Option (Option Int64)} {v : Option Int64} (hL : HL N ρ n τ L) (hk : k + 1 < 64) (hp : p < 64) (he : e < n) (h60 : n ≤ 60) (h : gi ρ 19 = nI (k + 1)) (ha : ga ρ 24 k = nI e) (hw : gi ρ 14 = 0) (hn : L (τ e) = none)
    (hkk : kk ≤ 10) (hkd : ga ρ 3 e = nI kk) (hsd : ga ρ 5 e = nI j) (hs : ga ρ 25 k = 1) (ht : gi ρ 20 = nI (p + 1)) (gv : Gv ρ p v) (h9 : 9 ≤ kk → v = some 0 ∨ v = some 1 ∨ v = some 2) (hv : ¬ ((kk = 9 ∧ v = some 0) ∨ (kk = 10 ∧ v = some 1))) :
    ∀ fu, f_M_workOut_15 N (1 + fu) ρ = f_M_workOut_15 N fu (phs (wa ρ 25 (nI k) 2) (k + 1) (nI j)) := by
  have e0 := m_look1 hL (by omega) he h60 h ha hn (by omega) hkd (by rw [hs]; decide)
  have e399 : f_M_lookOnce_399 N ρ (nI k) (nI e) (nI kk) = some ((), phs (wa ρ 25 (nI k) 2) (k + 1) (nI j)) := by
    unfold f_M_lookOnce_399
    rw [ckb_nI (show k < 64 by omega) (by decide), nI_clamp (show k < 2 ^ 31 by omega), if_pos hs, ckb_nI (show k < 64 by omega) (by decide), nm_eq, ckb_nI (show e < 60 by omega) (by decide), nI_clamp (show e < 2 ^ 31 by omega), show ga (wa ρ 25 (nI k) 2) 5 e = nI j from hsd, m_push hk (show gi (wa ρ 25 (nI k) 2) 19 = nI (k + 1) from h), bd_eq]
  have e364 : f_M_lookOnce_364 N ρ (nI k) (nI e) (nI kk) = some ((), phs (wa ρ 25 (nI k) 2) (k + 1) (nI j)) := by
    unfold f_M_lookOnce_364
    by_cases c : kk = 10
    · rw [if_pos (show nI kk = 10 by rw [c]; rfl), ht, nI_pred, ckb_nI hp (by decide), nI_clamp (by omega)]
      have : ¬ lg_cmp (gb ρ 6 p) 1 = 0 := by
        rw [cmp_eq]
        intro z
        rcases h9 (by omega) with rfl | rfl | rfl
        · rw [gv.2] at z; exact absurd z (by decide)
        · exact hv (Or.inr ⟨c, rfl⟩)
        · rw [gv.2] at z; exact absurd z (by decide)
      rw [if_neg this, e399]
    · rw [if_neg (show ¬ nI kk = (10 : Int32) from k_ne (j := 10) (by omega) (by decide) c), e399]
  intro fu
  rw [Nat.add_comm, m_step (by omega) h hw, e0, if_neg (show ¬ nI kk = (11 : Int32) from k_ne (j := 11) (by omega) (by decide) (by omega)), if_neg (show ¬ nI kk = (12 : Int32) from k_ne (j := 12) (by omega) (by decide) (by omega)), if_pos hs]
  by_cases c : kk = 9
  · have : ¬ lg_cmp (gb ρ 6 p) 0 = 0 := by
      rw [cmp_eq]
      intro z
      rcases h9 (by omega) with rfl | rfl | rfl
      · exact hv (Or.inl ⟨c, rfl⟩)
      · rw [gv.2] at z; exact absurd z (by decide)
      · rw [gv.2] at z; exact absurd z (by decide)
    rw [if_pos (show nI kk = 9 by rw [c]; rfl), ht, nI_pred, ckb_nI hp (by decide), nI_clamp (by omega), if_neg this, e364, bd_eq]
  · rw [if_neg (show ¬ nI kk = (9 : Int32) from k_ne (j := 9) (by omega) (by decide) c), e364, bd_eq]
/-- both parts are there -/
theorem m_both {N : Nat} {ρ : St} {n k e p kk : Nat} {τ : Nat → Tr} {L : Tr → Option (Option Int64)} {a b : Option Int64} (hL : HL N ρ n τ L) (hk : k < 64) (hp : p + 1 < 64) (he : e < n) (h60 : n ≤ 60) (h : gi ρ 19 = nI (k + 1)) (ha : ga ρ 24 k = nI e) (hw : gi ρ 14 = 0) (hn : L (τ e) = none)
    (hkk : kk ≤ 10) (hkd : ga ρ 3 e = nI kk) (hs : ga ρ 25 k = 2) (ht : gi ρ 20 = nI (p + 2)) (g1 : Gv ρ p a) (g2 : Gv ρ (p + 1) b)
    (h9 : 9 ≤ kk → (a = some 0 ∨ a = some 1 ∨ a = some 2) ∧ (b = some 0 ∨ b = some 1 ∨ b = some 2)) (h5 : kk < 5 → (∀ z, a = some z → okF z) ∧ (∀ z, b = some z → okF z)) (her : ∀ er, cmb kk a b = .error er → ¬ er = 0) : MR N ρ k p 1 (cmb kk a b) := by
  have e0 := m_look1 hL hk he h60 h ha hn (by omega) hkd (by rw [hs]; decide)
  obtain ⟨s, x, fl, q1, q2⟩ := m_combine (N := N) hkk hp ht g1 g2 h9 h5
  rw [if_neg (show ¬ nI kk = (11 : Int32) from k_ne (j := 11) (by omega) (by decide) (by omega)), if_neg (show ¬ nI kk = (12 : Int32) from k_ne (j := 12) (by omega) (by decide) (by omega)), if_neg (show ¬ ga ρ 25 k = 1 by rw [hs]; decide)] at e0
  unfold f_M_lookOnce_399 at e0
  rw [ckb_nI hk (by decide), nI_clamp (show k < 2 ^ 31 by omega), if_neg (show ¬ ga ρ 25 k = 1 by rw [hs]; decide), q1, bd_eq, nm_eq] at e0
  have fact : ∀ s, (s = si ρ 20 (nI p) ∨ ∃ er, s = si (si ρ 20 (nI p)) 14 er) → gi (gvs s p x fl) 19 = nI (k + 1) ∧ MF ρ (si (gvs s p x fl) 19 (nI k)) ∧ Low ρ (si (gvs s p x fl) 19 (nI k)) k p := by
    intro s hs
    rcases hs with rfl | ⟨er, rfl⟩
    · exact ⟨h, (mf_top.trans mf_gvs).trans mf_open, ⟨fun _ _ => ⟨rfl, rfl⟩, fun q hq => ⟨updLl (f := gb ρ 6) (by omega) (by omega), updl (f := ga ρ 26) (by omega) (by omega)⟩⟩⟩
    · exact ⟨h, ((mf_top.trans mf_wrong).trans mf_gvs).trans mf_open, ⟨fun _ _ => ⟨rfl, rfl⟩, fun q hq => ⟨updLl (f := gb ρ 6) (by omega) (by omega), updl (f := ga ρ 26) (by omega) (by omega)⟩⟩⟩
  cases q : cmb kk a b with
  | ok w =>
    rw [q] at q2
    obtain ⟨rfl, hv⟩ := q2
    obtain ⟨f1, f2, f3⟩ := fact _ (Or.inl rfl)
    rw [f1, nI_pred] at e0
    refine ⟨_, f2, f3, fun fu => ?_, rfl, rfl, hw, gv_gvs (ρ := si ρ 20 (nI p)) (by omega) hv⟩
    rw [Nat.add_comm, m_step hk h hw, e0, bd_eq]
  | error er =>
    rw [q] at q2
    have q2 : s = si (si ρ 20 (nI p)) 14 er := q2
    subst q2
    obtain ⟨f1, f2, f3⟩ := fact _ (Or.inr ⟨er, rfl⟩)
    rw [f1, nI_pred] at e0
    refine ⟨_, f2, f3, fun fu hf => ?_, rfl⟩
    rw [Nat.add_comm, m_step hk h hw, e0, bd_eq]
    exact m_halt hf (her er q)

