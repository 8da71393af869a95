/-! M's stack: what it touches, single steps (own rows) -/
def MF (ρ ρ' : St) : Prop := (∀ r, r ≠ 19 → r ≠ 20 → r ≠ 14 → gi ρ' r = gi ρ r) ∧ (∀ r, r ≠ 24 → r ≠ 25 → r ≠ 26 → ga ρ' r = ga ρ r) ∧ (∀ r, r ≠ 6 → gb ρ' r = gb ρ r)
theorem MF.rfl {ρ : St} : MF ρ ρ := ⟨fun _ _ _ _ => Eq.refl _, fun _ _ _ _ => Eq.refl _, fun _ _ => Eq.refl _⟩
theorem MF.trans {a b c : St} (h : MF a b) (k : MF b c) : MF a c := ⟨fun r x y z => (k.1 r x y z).trans (h.1 r x y z), fun r x y z => (k.2.1 r x y z).trans (h.2.1 r x y z), fun r x => (k.2.2 r x).trans (h.2.2 r x)⟩
theorem MF.sm {ρ ρ' : St} (h : MF ρ ρ') : SM ρ ρ' :=
  ⟨fun r q => h.1 r (fun z => absurd q (by rw [z]; decide)) (fun z => absurd q (by rw [z]; decide)) (fun z => absurd q (by rw [z]; decide)), fun r q => h.2.1 r (fun z => absurd q (by rw [z]; decide)) (fun z => absurd q (by rw [z]; decide)) (fun z => absurd q (by rw [z]; decide)), fun r q => h.2.2 r (fun z => absurd q (by rw [z]; decide))⟩
theorem mf_open {ρ : St} {x : Int32} : MF ρ (si ρ 19 x) := ⟨fun r h _ _ => by rw [gi_si, if_neg h], fun _ _ _ _ => rfl, fun _ _ => rfl⟩
theorem mf_top {ρ : St} {x : Int32} : MF ρ (si ρ 20 x) := ⟨fun r _ h _ => by rw [gi_si, if_neg h], fun _ _ _ _ => rfl, fun _ _ => rfl⟩
theorem mf_wrong {ρ : St} {x : Int32} : MF ρ (si ρ 14 x) := ⟨fun r _ _ h => by rw [gi_si, if_neg h], fun _ _ _ _ => rfl, fun _ _ => rfl⟩
theorem mf_at {ρ : St} {i x : Int32} : MF ρ (wa ρ 24 i x) := ⟨fun _ _ _ _ => rfl, fun r h _ _ => by rw [ga_wa, if_neg h], fun _ _ => rfl⟩
theorem mf_state {ρ : St} {i x : Int32} : MF ρ (wa ρ 25 i x) := ⟨fun _ _ _ _ => rfl, fun r _ h _ => by rw [ga_wa, if_neg h], fun _ _ => rfl⟩
theorem mf_none {ρ : St} {i x : Int32} : MF ρ (wz ρ 26 i x) := ⟨fun _ _ _ _ => rfl, fun r _ _ h => by rw [ga_wz, if_neg h], fun _ _ => rfl⟩
theorem mf_value {ρ : St} {i : Int32} {x : Int64} : MF ρ (wl ρ 6 i x) := ⟨fun _ _ _ _ => rfl, fun _ _ _ _ => rfl, fun r h => by rw [gb_wl, if_neg h]⟩
/-- what lies below k and below p stays -/
def Low (ρ ρ' : St) (k p : Nat) : Prop := (∀ q, q < k → ga ρ' 24 q = ga ρ 24 q ∧ ga ρ' 25 q = ga ρ 25 q) ∧ (∀ q, q < p → gb ρ' 6 q = gb ρ 6 q ∧ ga ρ' 26 q = ga ρ 26 q)
theorem Low.rfl {ρ : St} {k p : Nat} : Low ρ ρ k p := ⟨fun _ _ => ⟨Eq.refl _, Eq.refl _⟩, fun _ _ => ⟨Eq.refl _, Eq.refl _⟩⟩
theorem Low.trans {a b c : St} {k p k' p' : Nat} (h : Low a b k p) (g : Low b c k' p') (hk : k ≤ k') (hp : p ≤ p') : Low a c k p :=
  ⟨fun q hq => ⟨(g.1 q (by omega)).1.trans (h.1 q hq).1, (g.1 q (by omega)).2.trans (h.1 q hq).2⟩, fun q hq => ⟨(g.2 q (by omega)).1.trans (h.2 q hq).1, (g.2 q (by omega)).2.trans (h.2 q hq).2⟩⟩
/-- a value on the stack -/
def Gv (ρ : St) (p : Nat) : Option Int64 → Prop
  | none => ga ρ 26 p = 1
  | some z => ga ρ 26 p = 0 ∧ gb ρ 6 p = z
def gvs (ρ : St) (p : Nat) (x : Int64) (fl : Int32) : St := si (wz (wl ρ 6 (nI p) x) 26 (nI p) fl) 20 (nI (p + 1))
theorem m_give {N : Nat} {ρ : St} {p : Nat} {x : Int64} {fl : Int32} (hp : p < 64) (h : gi ρ 20 = nI p) : f_M_give N ρ x fl = some ((), gvs ρ p x fl) := by
  unfold f_M_give
  rw [h, ckb_nI hp (by decide), nm_eq, show gi (wl ρ 6 (nI p) x) 20 = nI p from h, ckb_nI hp (by decide), nm_eq, nm_eq, show gi (wz (wl ρ 6 (nI p) x) 26 (nI p) fl) 20 = nI p from h, nI_1]
  rfl
theorem mf_gvs {ρ : St} {p : Nat} {x : Int64} {fl : Int32} : MF ρ (gvs ρ p x fl) := (mf_value.trans mf_none).trans mf_top
theorem updn {f : Nat → Int32} {n : Nat} {x : Int32} (hn : n < 2 ^ 31) : upd f (nI n).toNatClampNeg x n = x := by rw [nI_clamp hn, upd_at, if_pos rfl]
theorem updl {f : Nat → Int32} {n e : Nat} {x : Int32} (hn : n < 2 ^ 31) (h : e ≠ n) : upd f (nI n).toNatClampNeg x e = f e := by rw [nI_clamp hn, upd_at, if_neg h]
theorem updLn {f : Nat → Int64} {n : Nat} {x : Int64} (hn : n < 2 ^ 31) : vp_updL f (nI n).toNatClampNeg x n = x := by rw [nI_clamp hn, updL_at, if_pos rfl]
theorem updLl {f : Nat → Int64} {n e : Nat} {x : Int64} (hn : n < 2 ^ 31) (h : e ≠ n) : vp_updL f (nI n).toNatClampNeg x e = f e := by rw [nI_clamp hn, updL_at, if_neg h]
theorem low_gvs {ρ : St} {k p : Nat} {x y : Int64} {fl : Int32} (hp : p < 64) : Low ρ (gvs ρ p x fl) k p :=
  ⟨fun _ _ => ⟨rfl, rfl⟩, fun q hq => ⟨updLl (f := gb ρ 6) (by omega) (by omega), updl (f := ga ρ 26) (by omega) (by omega)⟩⟩
theorem gv_gvs {ρ : St} {p : Nat} {x : Int64} {fl : Int32} {v : Option Int64} (hp : p < 64) (h : (v = none ∧ fl = 1) ∨ (v = some x ∧ fl = 0)) : Gv (gvs ρ p x fl) p v := by
  have e1 : ga (gvs ρ p x fl) 26 p = vp_nar .boolean fl := updn (by omega)
  have e2 : gb (gvs ρ p x fl) 6 p = x := updLn (f := gb ρ 6) (by omega)
  rcases h with ⟨rfl, rfl⟩ | ⟨rfl, rfl⟩
  · exact e1
  · exact ⟨e1, e2⟩
theorem gv_same {ρ ρ' : St} {p : Nat} {v : Option Int64} (h1 : gb ρ' 6 p = gb ρ 6 p) (h2 : ga ρ' 26 p = ga ρ 26 p) (h : Gv ρ p v) : Gv ρ' p v := by
  cases v with
  | none => exact h2.trans h
  | some z => exact ⟨h2.trans h.1, h1.trans h.2⟩
theorem m_step {N : Nat} {ρ : St} {k fu : Nat} (hk : k < 64) (h : gi ρ 19 = nI (k + 1)) (hw : gi ρ 14 = 0) : f_M_workOut_15 N (fu + 1) ρ = bd (f_M_lookOnce N ρ) fun _ s => f_M_workOut_15 N fu s := by
  show f_M_workOut_15_b N (f_M_workOut_15 N fu) ρ = _
  unfold f_M_workOut_15_b
  rw [h, if_neg (show ¬ nI (k + 1) ≤ 0 from nI_nle (by omega) (by omega)), if_pos hw]
theorem m_halt {N : Nat} {ρ : St} {fu : Nat} (hf : 0 < fu) (hw : ¬ gi ρ 14 = 0) : f_M_workOut_15 N fu ρ = some ((), ρ) := by
  obtain ⟨fu, rfl⟩ : ∃ q, fu = q + 1 := ⟨fu - 1, by omega⟩
  show f_M_workOut_15_b N (f_M_workOut_15 N fu) ρ = _
  unfold f_M_workOut_15_b
  by_cases c : gi ρ 19 ≤ 0
  · rw [if_pos c]
  · rw [if_neg c, if_neg hw]
/-- what group values M finds for a tree, at state ρ -/
def HL (N : Nat) (ρ : St) (n : Nat) (τ : Nat → Tr) (L : Tr → Option (Option Int64)) : Prop := ∀ e, e < n →
  (gi ρ 18 < 0 ∧ L (τ e) = none) ∨ (¬ gi ρ 18 < 0 ∧ ∃ r, f_M_groupLike N ρ (nI e) = some (r, ρ) ∧
    ((r < 0 ∧ L (τ e) = none) ∨ (¬ r < 0 ∧ ∃ v i, L (τ e) = some v ∧ i < 2080 ∧ (4 : Int32) * gi ρ 18 + r = nI i ∧ ((v = none ∧ ga ρ 22 i = 1) ∨ (ga ρ 22 i = 0 ∧ v = some (gb ρ 4 i))))))
theorem m_look {N : Nat} {ρ : St} {n k e : Nat} {τ : Nat → Tr} {L : Tr → Option (Option Int64)} (hL : HL N ρ n τ L) (hk : k < 64) (he : e < n) (h60 : n ≤ 60) (h : gi ρ 19 = nI (k + 1)) (ha : ga ρ 24 k = nI e) :
    (L (τ e) = none ∧ ∃ r : Int32, r < 0 ∧ f_M_lookOnce N ρ = f_M_lookOnce_37 N ρ (nI k) (nI e) (ga ρ 3 e) r) ∨
    (∃ v x fl, L (τ e) = some v ∧ ((v = none ∧ fl = 1) ∨ (v = some x ∧ fl = 0)) ∧ f_M_lookOnce N ρ = bd (f_M_give N ρ x fl) fun _ s => some ((), si s 19 (gi s 19 - 1))) := by
  unfold f_M_lookOnce
  rw [h, nI_pred, ckb_nI hk (by decide), nI_clamp (show k < 2 ^ 31 by omega), ha, ckb_nI (show e < 60 by omega) (by decide), nI_clamp (show e < 2 ^ 31 by omega)]
  rcases hL e he with ⟨c, q⟩ | ⟨c, r, q1, q2⟩
  · rw [if_pos c]
    exact Or.inl ⟨q, -1, by decide, rfl⟩
  · rw [if_neg c, q1, bd_eq]
    rcases q2 with ⟨c1, q⟩ | ⟨c1, v, i, q3, q4, q5, q6⟩
    · exact Or.inl ⟨q, r, c1, rfl⟩
    · right
      refine ⟨v, gb ρ 4 i, ga ρ 22 i, q3, ?_, ?_⟩
      · rcases q6 with q6 | q6
        · exact Or.inl q6
        · exact Or.inr ⟨q6.2, q6.1⟩
      · unfold f_M_lookOnce_37
        rw [if_neg c1, q5, ckb_nI q4 (by decide), ckb_nI q4 (by decide), nI_clamp (by omega)]
        rfl

