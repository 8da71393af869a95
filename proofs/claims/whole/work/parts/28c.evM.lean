/-! M works a tree out (own rows) -/
def MR (N : Nat) (ρ : St) (k p s : Nat) (r : Rs) : Prop := ∃ ρ', MF ρ ρ' ∧ Low ρ ρ' k p ∧ (match r with
  | .ok v => (∀ fu, f_M_workOut_15 N (s + fu) ρ = f_M_workOut_15 N fu ρ') ∧ gi ρ' 19 = nI k ∧ gi ρ' 20 = nI (p + 1) ∧ gi ρ' 14 = 0 ∧ Gv ρ' p v
  | .error er => (∀ fu, 0 < fu → f_M_workOut_15 N (s + fu) ρ = some ((), ρ')) ∧ gi ρ' 14 = er)
theorem m_look0 {N : Nat} {ρ : St} {n k e : Nat} {τ : Nat → Tr} {L : Tr → Option (Option Int64)} (hL : HL N ρ n τ L) (hk : k < 64) (he : e < n) (h60 : n ≤ 60) (h : gi ρ 19 = nI (k + 1)) (ha : ga ρ 24 k = nI e) (hn : L (τ e) = none) :
    ∃ r : Int32, r < 0 ∧ f_M_lookOnce N ρ = f_M_lookOnce_37 N ρ (nI k) (nI e) (ga ρ 3 e) r := by
  rcases m_look hL hk he h60 h ha with ⟨-, h⟩ | ⟨v, x, fl, q, -⟩
  · exact h
  · rw [hn] at q; cases q
theorem m_fin {N : Nat} {ρ : St} {k p : Nat} {x : Int64} {fl : Int32} {v : Option Int64} (hk : k < 64) (hp : p < 64) (ho : gi ρ 19 = nI (k + 1)) (hw : gi ρ 14 = 0)
    (h : f_M_lookOnce N ρ = some ((), si (gvs ρ p x fl) 19 (gi (gvs ρ p x fl) 19 - 1))) (hv : (v = none ∧ fl = 1) ∨ (v = some x ∧ fl = 0)) : MR N ρ k p 1 (.ok v) := by
  refine ⟨si (gvs ρ p x fl) 19 (nI k), mf_gvs.trans mf_open, (low_gvs (y := x) hp).trans (k' := k) (p' := p) ⟨fun _ _ => ⟨rfl, rfl⟩, fun _ _ => ⟨rfl, rfl⟩⟩ (Nat.le_refl _) (Nat.le_refl _), ?_, rfl, rfl, hw, gv_gvs (ρ := ρ) hp hv⟩
  intro fu
  rw [Nat.add_comm, m_step hk ho hw, h, bd_eq, show gi (gvs ρ p x fl) 19 = nI (k + 1) from ho, nI_pred]
def phs (ρ : St) (k : Nat) (x : Int32) : St := si (wa (wa ρ 24 (nI k) x) 25 (nI k) 0) 19 (nI (k + 1))
theorem m_push {N : Nat} {ρ : St} {k : Nat} {x : Int32} (hk : k < 64) (h : gi ρ 19 = nI k) : f_M_push N ρ x = some ((), phs ρ k x) := by
  unfold f_M_push
  rw [h, ckb_nI hk (by decide), nm_eq, show gi (wa ρ 24 (nI k) x) 19 = nI k from h, ckb_nI hk (by decide), nm_eq, nm_eq, show gi (wa (wa ρ 24 (nI k) x) 25 (nI k) 0) 19 = nI k from h, nI_1]
  rfl
theorem mf_phs {ρ : St} {k : Nat} {x : Int32} : MF ρ (phs ρ k x) := (mf_at.trans mf_state).trans mf_open
theorem low_phs {ρ : St} {k p : Nat} {x : Int32} (hk : k < 64) : Low ρ (phs ρ k x) k p :=
  ⟨fun q hq => ⟨updl (f := ga ρ 24) (by omega) (by omega), updl (f := ga ρ 25) (by omega) (by omega)⟩, fun _ _ => ⟨rfl, rfl⟩⟩
theorem low_st {ρ : St} {k p : Nat} {x : Int32} (hk : k < 64) : Low ρ (wa ρ 25 (nI k) x) k p :=
  ⟨fun q hq => ⟨rfl, updl (f := ga ρ 25) (by omega) (by omega)⟩, fun _ _ => ⟨rfl, rfl⟩⟩
theorem mr_err {N : Nat} {ρ ρ1 : St} {k p k1 p1 s s1 : Nat} {er : Int32} (hs : ∀ fu, f_M_workOut_15 N (s1 + fu) ρ = f_M_workOut_15 N fu ρ1) (h1 : MF ρ ρ1) (h2 : Low ρ ρ1 k p) (hk : k ≤ k1) (hp : p ≤ p1) (h : MR N ρ1 k1 p1 s (.error er)) : MR N ρ k p (s1 + s) (.error er) := by
  obtain ⟨ρ', a1, a2, a3, a4⟩ := h
  exact ⟨ρ', h1.trans a1, h2.trans a2 hk hp, fun fu hf => by rw [Nat.add_assoc, hs]; exact a3 fu hf, a4⟩
theorem mr_ok {N : Nat} {ρ ρ1 : St} {k p s s1 : Nat} {r : Rs} (hs : ∀ fu, f_M_workOut_15 N (s1 + fu) ρ = f_M_workOut_15 N fu ρ1) (h1 : MF ρ ρ1) (h2 : Low ρ ρ1 k p) (h : MR N ρ1 k p s r) : MR N ρ k p (s1 + s) r := by
  cases r with
  | error er => exact mr_err hs h1 h2 (Nat.le_refl _) (Nat.le_refl _) h
  | ok v =>
    obtain ⟨ρ', a1, a2, a3, a4⟩ := h
    exact ⟨ρ', h1.trans a1, h2.trans a2 (Nat.le_refl _) (Nat.le_refl _), fun fu => by rw [Nat.add_assoc, hs]; exact a3 fu, a4⟩
/-- the first look at an operator: its first part is opened -/
theorem m_open1 {N : Nat} {ρ : St} {n k e i kk : Nat} {τ : Nat → Tr} {L : Tr → Option (Option Int64)} (hL : HL N ρ n τ L) (hk : k + 1 < 64) (he : e < n) (h60 : n ≤ 60) (h : gi ρ 19 = nI (k + 1)) (ha : ga ρ 24 k = nI e) (hw : gi ρ 14 = 0) (hn : L (τ e) = none)
    (hkk : kk ≤ 12) (hkd : ga ρ 3 e = nI kk) (hf : ga ρ 4 e = nI i) (hs : ga ρ 25 k = 0) : ∀ fu, f_M_workOut_15 N (1 + fu) ρ = f_M_workOut_15 N fu (phs (wa ρ 25 (nI k) 1) (k + 1) (nI i)) := by
  intro fu
  obtain ⟨r, r0, e1⟩ := m_look0 hL (by omega) he h60 h ha hn
  rw [Nat.add_comm, m_step (by omega) h hw, e1]
  unfold f_M_lookOnce_37
  rw [if_pos r0, hkd, if_neg (show ¬ nI kk = (20 : Int32) from k_ne (j := 20) (by omega) (by decide) (by omega)), if_neg (show ¬ nI kk = (21 : Int32) from k_ne (j := 21) (by omega) (by decide) (by omega)), if_pos (show nI kk < (30 : Int32) from nI_lt (b := 30) (by omega) (by decide)), ckb_nI (show k < 64 by omega) (by decide), nI_clamp (show k < 2 ^ 31 by omega), if_pos hs, ckb_nI (show k < 64 by omega) (by decide), nm_eq, ckb_nI (show e < 60 by omega) (by decide), nI_clamp (show e < 2 ^ 31 by omega), show ga (wa ρ 25 (nI k) 1) 4 e = nI i from hf, m_push hk (show gi (wa ρ 25 (nI k) 1) 19 = nI (k + 1) from h), bd_eq, bd_eq]
/-- behind the first part: what is looked at next -/
theorem m_look1 {N : Nat} {ρ : St} {n k e kk : Nat} {τ : Nat → Tr} {L : Tr → Option (Option Int64)} (hL : HL N ρ n τ L) (hk : k < 64) (he : e < n) (h60 : n ≤ 60) (h : gi ρ 19 = nI (k + 1)) (ha : ga ρ 24 k = nI e) (hn : L (τ e) = none)
    (hkk : kk ≤ 12) (hkd : ga ρ 3 e = nI kk) (hs : ¬ ga ρ 25 k = 0) : f_M_lookOnce N ρ =
      if nI kk = (11 : Int32) then (ckb (gi ρ 20 - 1) 64 <| if lg_cmp (gb ρ 6 (gi ρ 20 - 1).toNatClampNeg) 2 = 0 then f_M_lookOnce_262 N ρ 2 (gi ρ 20 - 1) else f_M_lookOnce_262 N ρ (1 - gb ρ 6 (gi ρ 20 - 1).toNatClampNeg) (gi ρ 20 - 1))
      else if nI kk = (12 : Int32) then (ckb (gi ρ 20 - 1) 64 <| bd (f_M_truthOf N ρ (ga ρ 26 (gi ρ 20 - 1).toNatClampNeg)) fun r8 s9 => ckb (gi ρ 20 - 1) 64 <| nm (wl s9 6 (gi ρ 20 - 1) r8) fun s10 => ckb (gi s10 20 - 1) 64 <| nm (wz s10 26 (gi s10 20 - 1) 0) fun s11 => nm (si s11 19 (gi s11 19 - 1)) fun s12 => some ((), s12))
      else if ga ρ 25 k = 1 then (if nI kk = (9 : Int32) then (ckb (gi ρ 20 - 1) 64 <| if lg_cmp (gb ρ 6 (gi ρ 20 - 1).toNatClampNeg) 0 = 0 then f_M_lookOnce_386 N ρ else f_M_lookOnce_364 N ρ (nI k) (nI e) (nI kk)) else f_M_lookOnce_364 N ρ (nI k) (nI e) (nI kk))
      else f_M_lookOnce_399 N ρ (nI k) (nI e) (nI kk) := by
  obtain ⟨r, r0, e1⟩ := m_look0 hL hk he h60 h ha hn
  rw [e1]
  unfold f_M_lookOnce_37
  rw [if_pos r0, hkd, if_neg (show ¬ nI kk = (20 : Int32) from k_ne (j := 20) (by omega) (by decide) (by omega)), if_neg (show ¬ nI kk = (21 : Int32) from k_ne (j := 21) (by omega) (by decide) (by omega)), if_pos (show nI kk < (30 : Int32) from nI_lt (b := 30) (by omega) (by decide)), ckb_nI (show k < 64 by omega) (by decide), nI_clamp (show k < 2 ^ 31 by omega), if_neg hs, ckb_nI (show k < 64 by omega) (by decide)]

