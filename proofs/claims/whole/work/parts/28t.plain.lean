/-! a run without groups: a row is taken (own rows) -/
theorem colsok_sx {σ σ' ρ ρ' : St} {w : Nat → Nat} {τ : Nat → Tr} {ns ng ni : Nat} (h : SX σ σ') (k : SM ρ ρ') (c : ColsOk σ ρ w τ ns ng ni) : ColsOk σ' ρ' w τ ns ng ni := by
  rw [colsok_sm k]
  unfold ColsOk
  rw [h.2.1 15 (by decide), h.1 4 (by decide), h.1 5 (by decide), h.2.1 16 (by decide), h.2.1 17 (by decide)]
  exact c
theorem aggok_sx {σ σ' : St} {τ : Nat → Tr} {ns ng : Nat} (h : SX σ σ') (c : AggOk σ τ ns ng) : AggOk σ' τ ns ng := by
  unfold AggOk
  rw [h.2.1 15 (by decide), h.1 4 (by decide), h.2.1 16 (by decide)]
  exact c
theorem late_sx {σ σ' : St} {τ : Nat → Tr} {ni : Nat} (h : SX σ σ') : late σ' τ ni = late σ τ ni := by
  unfold late
  rw [h.2.1 17 (by decide), h.1 5 (by decide)]
theorem tb_sm {ρ ρ' : St} (h : SM ρ ρ') (k : Nat) : tb ρ' k = tb ρ k := by
  unfold tb
  rw [h.2.1 11 (by decide)]
/-- the answer is empty to the outside -/
def AnsE (σ ρ : St) : Prop := gi σ 12 = 0 ∧ gi σ 13 = 0 ∧ gi σ 15 = 0 ∧ gi ρ 13 = 0
/-- both have stopped -/
def Ende (nt n m ns ng ni no : Nat) (w h : Nat → Nat) (τ : Nat → Tr) (σ ρ : St) : Prop := Dat σ ρ nt n m ns ng ni no w h τ ∧ IvL σ ∧ AnsE σ ρ
/-- what holds while rows are gone through, with or without groups -/
def Base (nt n m ns ng ni no : Nat) (w h T : Nat → Nat) (τ : Nat → Tr) (σ ρ : St) : Prop := Dat σ ρ nt n m ns ng ni no w h τ ∧ gi ρ 14 = 0 ∧ gi ρ 18 = -1 ∧ ColsOk σ ρ w τ ns ng ni ∧ AggOk σ τ ns ng ∧ (∀ k, k < ns → tb ρ k = T k) ∧ IvL σ ∧ AnsE σ ρ
theorem Base.mf {nt n m ns ng ni no : Nat} {w h T : Nat → Nat} {τ : Nat → Tr} {σ ρ ρ' : St} {l : Nat → Int64} (b : Base nt n m ns ng ni no w h T τ σ ρ) (mf : MF ρ ρ') (hw : gi ρ' 14 = 0) : Base nt n m ns ng ni no w h T τ (wL σ l) ρ' := by
  obtain ⟨b1, b2, b3, b4, b5, b6, b7, b8⟩ := b
  have sx : SX σ (wL σ l) := xa_wL.sx
  exact ⟨b1.same sx mf.sm, hw, (mf.1 _ (by decide) (by decide) (by decide)).trans b3, colsok_sx sx mf.sm b4, aggok_sx sx b5, fun k hk => (tb_sm mf.sm k).trans (b6 k hk), b7, b8.1, b8.2.1, b8.2.2.1, (mf.1 _ (by decide) (by decide) (by decide)).trans b8.2.2.2⟩
theorem Base.ende {nt n m ns ng ni no : Nat} {w h T : Nat → Nat} {τ : Nat → Tr} {σ ρ ρ' : St} {l : Nat → Int64} (b : Base nt n m ns ng ni no w h T τ σ ρ) (mf : MF ρ ρ') : Ende nt n m ns ng ni no w h τ (wL σ l) ρ' := by
  obtain ⟨b1, b2, b3, b4, b5, b6, b7, b8⟩ := b
  exact ⟨b1.same xa_wL.sx mf.sm, b7, b8.1, b8.2.1, b8.2.2.1, (mf.1 _ (by decide) (by decide) (by decide)).trans b8.2.2.2⟩
theorem sx_at {σ : St} {i x : Int32} : SX σ (wa σ 23 i x) := ⟨fun _ _ => rfl, fun r q => by rw [ga_wa, if_neg (fun z => absurd q (by rw [z]; decide))], fun _ _ => rfl⟩
theorem sm_rows {ρ : St} {i x : Int32} : SM ρ (wa ρ 19 i x) := ⟨fun _ _ => rfl, fun r q => by rw [ga_wa, if_neg (fun z => absurd q (by rw [z]; decide))], fun _ _ => rfl⟩
theorem ivL_at {σ : St} {k : Nat} {v : Int32} (hk : k < 3) (hv : v = -1 ∨ ∃ r, r < 8 ∧ v = nI r) (h : IvL σ) : IvL (wa σ 23 (nI k) v) := by
  intro i hi
  have e1 : ga (wa σ 23 (nI k) v) 23 i = if i = k then v else ga σ 23 i := by rw [ga_wa, if_pos rfl, nI_clamp (by omega), upd_at]
  rw [e1]
  by_cases c : i = k
  · rw [if_pos c]
    rcases hv with z | ⟨r, hr, z⟩
    · exact ⟨0, by omega, by rw [z]; rfl⟩
    · exact ⟨r + 1, by omega, by rw [z, nI_pred]⟩
  · rw [if_neg c]; exact h i hi
theorem Base.at {nt n m ns ng ni no k : Nat} {w h T : Nat → Nat} {τ : Nat → Tr} {σ ρ : St} {v : Int32} (hk : k < 3) (hv : v = -1 ∨ ∃ r, r < 8 ∧ v = nI r) (b : Base nt n m ns ng ni no w h T τ σ ρ) : Base nt n m ns ng ni no w h T τ (wa σ 23 (nI k) v) (wa ρ 19 (nI k) v) := by
  obtain ⟨b1, b2, b3, b4, b5, b6, b7, b8⟩ := b
  exact ⟨b1.same sx_at sm_rows, b2, b3, colsok_sx sx_at sm_rows b4, aggok_sx sx_at b5, b6, ivL_at hk hv b7, b8⟩
/-- the where, then what is done with the row -/
theorem take_where (N : Nat) (hN : 200 < N) (g : Bool) {nt n m ns ng ni no : Nat} {w h T : Nat → Nat} {τ : Nat → Tr} {J : Nat → St → St → Prop} (h1 : ∀ k σ ρ, J k σ ρ → Base nt n m ns ng ni no w h T τ σ ρ) (h2 : ∀ k σ ρ ρ' l, J k σ ρ → MF ρ ρ' → gi ρ' 14 = 0 → J k (wL σ l) ρ')
    (IN : ∀ k σ ρ, J k σ ρ → k < 512 → Rw σ ρ h ns → Stp2 J (Ende nt n m ns ng ni no w h τ) h ns (k + 1) (f_R_takeRow_30 N g σ 1) (f_M_goTogether_25 N ρ)) (k : Nat) (σ ρ : St) (hJ : J k σ ρ) (hk : k < 512) (hR : Rw σ ρ h ns) :
    Stp2 J (Ende nt n m ns ng ni no w h τ) h ns (k + 1) (f_R_takeRow N g σ) (f_M_goTogether N ρ) := by
  have b := h1 k σ ρ hJ
  obtain ⟨d, hw, hg, co, ag, -⟩ := id b
  unfold f_R_takeRow f_M_goTogether
  rw [if_pos hw]
  rcases d.2.2.2.2.2.2.1 with ⟨c1, c2⟩ | ⟨j, j1, j2, j3, j4⟩
  · rw [if_pos c1, if_pos (show gi ρ 4 < 0 by rw [c2]; decide)]
    exact IN k σ ρ hJ hk hR
  · have n60 := d.2.1.1
    rw [j2, j3, if_neg (show ¬ nI j = -1 from nI_ne_m1 (by omega)), if_neg (show ¬ nI j < 0 from nI_pos (by omega))]
    have ck := co.2.1
    have ab := ag.2.1
    rw [j2] at ck ab
    obtain ⟨tv, l, bb, ρ2, e1, e2, mf, e3⟩ := ev_cond N hN g d hR (Nat.le_refl _) j1 j4 ck ab hg hw
    rw [e1, e2, bd_eq, bd_eq]
    rcases e3 with ⟨u1, u2, u3, u4⟩ | ⟨u1, u2, u3, u4⟩
    · rw [if_pos u4]
      unfold f_R_takeRow_30
      rw [if_neg (show ¬ (0 : Int32) ≤ tv from fun z => absurd u1 (Int32.not_lt.mpr z))]
      exact ⟨tv, _, ρ2, rfl, rfl, Or.inr ⟨u2, u3, b.ende mf⟩⟩
    · by_cases c1 : bb = 0
      · rw [if_pos c1]
        unfold f_R_takeRow_30
        rw [if_pos u1, if_neg (show ¬ tv = 1 from fun z => by have := u4.mp z; rw [c1] at this; exact absurd this (by decide))]
        exact ⟨0, _, ρ2, rfl, rfl, Or.inl ⟨rfl, k, by omega, h2 k σ ρ ρ2 l hJ mf u2, hR.mf mf⟩⟩
      · have b1 : bb = 1 := by rcases u3 with z | z; exact absurd z c1; exact z
        rw [if_neg c1, u4.mpr b1]
        exact IN k _ ρ2 (h2 k σ ρ ρ2 l hJ mf u2) hk (hR.mf mf)
/-- without groups -/
def Ju (nt n m ns ng ni no : Nat) (w h T : Nat → Nat) (τ : Nat → Tr) (_ : Nat) (σ ρ : St) : Prop := Base nt n m ns ng ni no w h T τ σ ρ ∧ gi σ 16 = 0 ∧ gi ρ 15 = 0 ∧ late σ τ ni = 0 ∧ ∃ a, AnsR σ ρ a ni
theorem ansR_mf {σ ρ ρ' : St} {k ni : Nat} {l : Nat → Int64} (h : AnsR σ ρ k ni) (mf : MF ρ ρ') : AnsR (wL σ l) ρ' k ni := by
  obtain ⟨a1, a2, a3, a4⟩ := h
  have e1 : ga ρ' 18 = ga ρ 18 := mf.2.1 _ (by decide) (by decide) (by decide)
  have e2 : gb ρ' 2 = gb ρ 2 := mf.2.2 _ (by decide)
  exact ⟨a1, a2, (mf.1 _ (by decide) (by decide) (by decide)).trans a3, fun r hr => ⟨fun j hj => cel_same rfl (by rw [e1]) (by rw [e2]) ((a4 r hr).1 j hj), nbs_same rfl (fun j hj => by rw [e1]) (a4 r hr).2⟩⟩
theorem Base.xa {nt n m ns ng ni no : Nat} {w h T : Nat → Nat} {τ : Nat → Tr} {σ ρ σ' ρ' : St} (b : Base nt n m ns ng ni no w h T τ σ ρ) (xa : XA σ σ') (mb : MB ρ ρ') (hw : gi ρ' 14 = 0) : Base nt n m ns ng ni no w h T τ σ' ρ' := by
  obtain ⟨b1, b2, b3, b4, b5, b6, b7, b8⟩ := b
  refine ⟨b1.same xa.sx mb.sm, hw, (mb.1 _ (by decide) (by decide) (by decide) (by decide)).trans b3, colsok_sx xa.sx mb.sm b4, aggok_sx xa.sx b5, fun k hk => (tb_sm mb.sm k).trans (b6 k hk), ?_, (xa.1 _ (by decide)).trans b8.1, (xa.1 _ (by decide)).trans b8.2.1, (xa.1 _ (by decide)).trans b8.2.2.1, (mb.1 _ (by decide) (by decide) (by decide) (by decide)).trans b8.2.2.2⟩
  intro i hi
  rw [xa.2.1 23 (by decide)]
  exact b7 i hi
theorem Base.xae {nt n m ns ng ni no : Nat} {w h T : Nat → Nat} {τ : Nat → Tr} {σ ρ σ' ρ' : St} (b : Base nt n m ns ng ni no w h T τ σ ρ) (xa : XA σ σ') (mb : MB ρ ρ') : Ende nt n m ns ng ni no w h τ σ' ρ' := by
  obtain ⟨b1, b2, b3, b4, b5, b6, b7, b8⟩ := b
  refine ⟨b1.same xa.sx mb.sm, ?_, (xa.1 _ (by decide)).trans b8.1, (xa.1 _ (by decide)).trans b8.2.1, (xa.1 _ (by decide)).trans b8.2.2.1, (mb.1 _ (by decide) (by decide) (by decide) (by decide)).trans b8.2.2.2⟩
  intro i hi
  rw [xa.2.1 23 (by decide)]
  exact b7 i hi
theorem Rw.xa {σ ρ σ' ρ' : St} {h : Nat → Nat} {lv : Nat} (r : Rw σ ρ h lv) (xa : XA σ σ') (mb : MB ρ ρ') : Rw σ' ρ' h lv := by
  intro k hk
  rw [xa.2.1 23 (by decide), mb.2.1 19 (by decide) (by decide) (by decide) (by decide), tb_sm mb.sm]
  exact r k hk
/-- the state at a row of sources, without groups -/
def Su (nt n m ns ng ni no : Nat) (w h T : Nat → Nat) (τ : Nat → Tr) (σ ρ : St) : Prop := Base nt n m ns ng ni no w h T τ σ ρ ∧ Rw σ ρ h ns ∧ late σ τ ni = 0
theorem gv_u (N : Nat) (hN : 200 < N) (g : Bool) {nt n m ns ng ni no : Nat} {w h T : Nat → Nat} {τ : Nat → Tr} : GV N g nt n m ns ng ni no w h τ (Su nt n m ns ng ni no w h T τ) := by
  refine ⟨fun σ ρ s => ⟨s.1.1, s.1.2.1⟩, fun σ ρ σ' ρ' s xa mb hw => ⟨s.1.xa xa mb hw, s.2.1.xa xa mb, by rw [late_sx xa.sx]; exact s.2.2⟩, ?_⟩
  intro σ ρ k s hk
  obtain ⟨⟨d, hw, hg, co, ag, -⟩, hR, hl⟩ := s
  obtain ⟨k1, k2, k3, k4⟩ := iE_at d hk
  have n60 := d.2.1.1
  have ck := co.2.2.2.2 k hk
  rw [k3, oo_j (by omega)] at ck
  have ab : tab (τ (iE ρ k)) = 0 := by
    unfold late at hl
    rw [Nat.or_eq_zero_iff, orB_zero] at hl
    have := hl.1 k hk
    rw [k3, oo_j (by omega)] at this
    exact this
  obtain ⟨r, -, ok, hx, -, hm⟩ := ev_row N hN g d hR (Nat.le_refl _) k1 ck ab hg hw
  obtain ⟨l', y1, y2, -⟩ := hx k4
  exact ⟨r, ok, ⟨l', y1, y2⟩, hm⟩
theorem jh_u (N : Nat) (hN : 200 < N) (g : Bool) {nt n m ns ng ni no : Nat} {w h T : Nat → Nat} {τ : Nat → Tr} : JH N g nt n m ns ng ni no w h T τ (Ju nt n m ns ng ni no w h T τ) (Ende nt n m ns ng ni no w h τ) := by
  have h2 : ∀ k σ ρ ρ' l, Ju nt n m ns ng ni no w h T τ k σ ρ → MF ρ ρ' → gi ρ' 14 = 0 → Ju nt n m ns ng ni no w h T τ k (wL σ l) ρ' := by
    rintro k σ ρ ρ' l ⟨b, g1, g2, g3, a, g4⟩ mf hw
    exact ⟨b.mf mf hw, g1, (mf.1 _ (by decide) (by decide) (by decide)).trans g2, by rw [late_sx xa_wL.sx]; exact g3, a, ansR_mf g4 mf⟩
  refine ⟨fun k σ ρ j => ⟨j.1.1, j.1.2.1, j.1.2.2.1, j.1.2.2.2.1, j.1.2.2.2.2.1, j.1.2.2.2.2.2.1⟩, h2, fun k σ ρ ρ' l j mf => j.1.ende mf, ?_, ?_, fun σ ρ e => e.1⟩
  · rintro c σ ρ k v hk hv ⟨b, g1, g2, g3, a, g4⟩
    exact ⟨b.at hk hv, g1, g2, by rw [late_sx sx_at]; exact g3, a, g4⟩
  · refine take_where N hN g (fun k σ ρ j => j.1) h2 ?_
    rintro k σ ρ ⟨b, g1, g2, g3, a, g4⟩ hk hR
    unfold f_R_takeRow_30 f_M_goTogether_25
    rw [if_pos (show (0 : Int32) ≤ 1 by decide), if_pos rfl, if_pos g1, if_pos b.2.1, if_pos g2]
    obtain ⟨c, σ', ρ', z1, z2, z3, z4, z5⟩ := g_row N hN g (gv_u N hN g (T := T)) σ ρ ⟨b, hR, g3⟩ g4
    rw [z1, z2, bd_eq, bd_eq]
    refine ⟨c, σ', ρ', rfl, rfl, ?_⟩
    rcases z5 with ⟨y1, y2, y3⟩ | ⟨y1, y2⟩
    · exact Or.inl ⟨y1, k, by omega, ⟨b.xa z3 z4 y2, (z3.1 _ (by decide)).trans g1, (z4.1 _ (by decide) (by decide) (by decide) (by decide)).trans g2, by rw [late_sx z3.sx]; exact g3, a + 1, y3⟩, hR.xa z3 z4⟩
    · exact Or.inr ⟨y1, y2, b.xae z3 z4⟩

