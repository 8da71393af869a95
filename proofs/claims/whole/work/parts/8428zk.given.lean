/-! the groups are given, in step (own rows) -/
/-- what stays while groups are given -/
def St1 (n m ns ng ni U : Nat) (w T : Nat → Nat) (τ : Nat → Tr) (K : Nat → Nat) (D : Nat → Bool) (CP : (Nat → Int32) → Nat → Option Int64) (gT : Nat → Nat) (σ ρ : St) : Prop := ColsOk σ ρ w τ ns ng ni ∧ AggOk σ τ ns ng ∧ (∀ k, k < ns → tb ρ k = T k) ∧ late σ τ ni = U ∧ (∀ s, s < m → Slt σ ρ τ n K D s) ∧ BndOk ρ τ (isG' ρ τ ng) ni ∧ colP ρ = CP ∧ ∀ j, j < ng → gE ρ j = gT j
theorem St1.same {n m ns ng ni U : Nat} {w T : Nat → Nat} {τ : Nat → Tr} {K : Nat → Nat} {D : Nat → Bool} {CP : (Nat → Int32) → Nat → Option Int64} {gT : Nat → Nat} {σ ρ σ' ρ' : St} (s : St1 n m ns ng ni U w T τ K D CP gT σ ρ) (sx : SX σ σ') (sm : SM ρ ρ') : St1 n m ns ng ni U w T τ K D CP gT σ' ρ' := by
  obtain ⟨s1, s2, s3, s4, s5, s6, s7, s8⟩ := s
  exact ⟨colsok_sx sx sm s1, aggok_sx sx s2, fun k hk => (tb_sm sm k).trans (s3 k hk), by rw [late_sx sx]; exact s4, fun k hk => (s5 k hk).same sx sm, (bndok_sm' sm).mpr s6, by rw [colP_sm sm]; exact s7, fun j hj => (gE_sm sm j).trans (s8 j hj)⟩
theorem gv_g (N : Nat) (hN : 600 < N) {nt n m ns ng ni no U R GX q : Nat} {w h T : Nat → Nat} {τ : Nat → Tr} {K : Nat → Nat} {D : Nat → Bool} {CP : (Nat → Int32) → Nat → Option Int64} {gT gr : Nat → Nat} {ky arg : Nat → Nat → Option Int64} {pos : Nat → Nat → Int32} {p : Nat → Int32} : GV N true nt n m ns ng ni no w h τ (Sq nt n m ns ng ni no U R GX q w h T τ K D CP gT gr ky arg pos p) := by
  refine ⟨fun σ ρ s => ⟨s.1, s.2.1⟩, ?_, ?_⟩
  · rintro σ ρ σ' ρ' ⟨d, hw, hgn, hcu, hat, st, gd, r1, r2, r3⟩ xa mb hw'
    exact ⟨d.same xa.sx mb.sm, hw', (mb.1 _ (by decide) (by decide) (by decide) (by decide)).trans hgn, (xa.1 _ (by decide)).trans hcu, fun i hi => by rw [xa.2.1 _ (by decide)]; exact hat i hi, St1.same st xa.sx mb.sm, gd.same (xa.1 _ (by decide)) (fun r hr => xa.2.1 r (fun z => absurd hr (by rw [z]; decide))) (fun r hr => xa.2.2 r (fun z => absurd hr (by rw [z]; decide))) (mb.1 _ (by decide) (by decide) (by decide) (by decide)) (mb.1 _ (by decide) (by decide) (by decide) (by decide)) (mb.2.1 _ (by decide) (by decide) (by decide) (by decide)) (mb.2.1 _ (by decide) (by decide) (by decide) (by decide)) (mb.2.1 _ (by decide) (by decide) (by decide) (by decide)) (mb.2.2 _ (by decide) (by decide)) (mb.2.2 _ (by decide) (by decide)), r1, r2, r3⟩
  · intro σ ρ k S hk
    obtain ⟨d, hw, hgn, hcu, hat, ⟨co, ag, hT, hU, hS, hB, -⟩, -⟩ := id S
    obtain ⟨k1, k2, k3, k4⟩ := iE_at d hk
    have n60 := d.2.1.1
    have ck := co.2.2.2.2 k hk
    rw [k3, oo_j (by omega)] at ck
    obtain ⟨r, ok, hx, -, hm⟩ := ev_grp N hN S k1 ck (fun s hs => by
      rw [← hU]
      unfold late
      rw [Nat.testBit_or, Bool.or_eq_true, orB_bit]
      exact Or.inl ⟨k, hk, by rw [k3, oo_j (by omega)]; exact hs⟩) (hB.2 k hk)
    exact ⟨r, ok, hx k4, hm⟩
theorem g_cond (N : Nat) (hN : 600 < N) {nt n m ns ng ni no U R GX q e : Nat} {w h T : Nat → Nat} {τ : Nat → Tr} {K : Nat → Nat} {D : Nat → Bool} {CP : (Nat → Int32) → Nat → Option Int64} {gT gr : Nat → Nat} {ky arg : Nat → Nat → Option Int64} {pos : Nat → Nat → Int32} {p : Nat → Int32} {σ ρ : St} (S : Sq nt n m ns ng ni no U R GX q w h T τ K D CP gT gr ky arg pos p σ ρ) (he : e < n) (hx : gi σ 5 = nI e) (hm : gi ρ 5 = nI e) (tr : tru (τ e)) :
    ∃ (t : Int32) (l : Nat → Int64) (b : Int32) (ρ' : St), f_ev N true 130 1 σ (nI e) 0 = some (t, wL σ l) ∧ f_M_isTrue N ρ (nI e) = some (b, ρ') ∧ MF ρ ρ' ∧ ((t < 0 ∧ ¬ t = 0 ∧ gi ρ' 14 = t ∧ b = 0) ∨ (0 ≤ t ∧ gi ρ' 14 = 0 ∧ (b = 0 ∨ b = 1) ∧ (t = 1 ↔ b = 1))) := by
  obtain ⟨d, hw, hgn, hcu, hat, ⟨co, ag, hT, hU, hS, hB, -⟩, -⟩ := id S
  have n60 := d.2.1.1
  have ck := co.2.2.1
  rw [hx, oo_j (by omega)] at ck
  obtain ⟨r, ok, -, hx', ρ', m1, m2, m3⟩ := ev_grp N hN S he ck (fun s hs => by
      rw [← hU]
      unfold late
      rw [Nat.testBit_or, Bool.or_eq_true]
      exact Or.inr (by rw [hx, oo_j (by omega)]; exact hs)) (hB.1 _ (by rw [hm, oo_j (by omega)]))
  obtain ⟨l, x1⟩ := hx' tr
  have cs := tc_cases tr ok
  obtain ⟨b, b1, b2, b3⟩ := m_true N m1 m3 cs
  refine ⟨tc r, l, b, ρ', x1, b1, m2, ?_⟩
  rcases cs with ⟨er, rfl, he⟩ | rfl | rfl | rfl
  · left
    refine ⟨(err_neg he).2, ?_, m3, ?_⟩
    · rcases he with rfl | rfl <;> decide
    · rcases b2 with z | z
      · exact z
      · have := b3.mp z; cases this
  · exact Or.inr ⟨by decide, m3.1, b2, fun z => absurd z (by decide), fun z => absurd (b3.mp z) (by simp)⟩
  · exact Or.inr ⟨by decide, m3.1, b2, fun _ => b3.mpr rfl, fun _ => rfl⟩
  · exact Or.inr ⟨by decide, m3.1, b2, fun z => absurd z (by decide), fun z => absurd (b3.mp z) (by simp)⟩
theorem m_gstop {N fu : Nat} {ρ : St} {x : Int32} (hf : 0 < fu) (hw : ¬ gi ρ 14 = 0) : f_M_goThroughGroups_21 N fu ρ x = some ((), si ρ 18 (-1)) := by
  obtain ⟨fu, rfl⟩ : ∃ q, fu = q + 1 := ⟨fu - 1, by omega⟩
  show f_M_goThroughGroups_21_b N (f_M_goThroughGroups_21 N fu) ρ x = _
  unfold f_M_goThroughGroups_21_b
  rw [if_neg hw, nm_eq]
  split <;> rfl
/-- between groups -/
def Ig (nt n m ns ng ni no U R GX : Nat) (w h T : Nat → Nat) (τ : Nat → Tr) (K : Nat → Nat) (D : Nat → Bool) (CP : (Nat → Int32) → Nat → Option Int64) (gT gr : Nat → Nat) (ky arg : Nat → Nat → Option Int64) (pos : Nat → Nat → Int32) (σ ρ : St) : Prop :=
  Dat σ ρ nt n m ns ng ni no w h τ ∧ gi ρ 14 = 0 ∧ St1 n m ns ng ni U w T τ K D CP gT σ ρ ∧ GD ng U R GX K D (Qg ns ng h T τ CP gT) gr ky arg pos σ ρ ∧ IvL σ ∧ AnsE σ ρ
theorem sm_gn {ρ : St} {x : Int32} : SM ρ (si ρ 18 x) := ⟨fun r q => by rw [gi_si, if_neg (fun z => absurd q (by rw [z]; decide))], fun _ _ => rfl, fun _ _ => rfl⟩
theorem pos_m1 {ns : Nat} {h T : Nat → Nat} : PK ns h T (fun _ => -1) := ⟨fun i hi => ⟨0, by omega, rfl⟩, fun k hk => Or.inl rfl⟩
/-- a group is entered, on both sides -/
theorem g_enter (N : Nat) (hN : 600 < N) {nt n m ns ng ni no U R GX q : Nat} {w h T : Nat → Nat} {τ : Nat → Tr} {K : Nat → Nat} {D : Nat → Bool} {CP : (Nat → Int32) → Nat → Option Int64} {gT gr : Nat → Nat} {ky arg : Nat → Nat → Option Int64} {pos : Nat → Nat → Int32} {σ ρ : St} (I : Ig nt n m ns ng ni no U R GX w h T τ K D CP gT gr ky arg pos σ ρ) (hq : q < GX) :
    ∃ σ' p, f_G_enter N σ (nI q) = some ((), σ') ∧ Sq nt n m ns ng ni no U R GX q w h T τ K D CP gT gr ky arg pos p σ' (si ρ 18 (nI q)) ∧ SX σ σ' ∧ IvL σ' ∧ (∀ r, r ≠ 20 → gi σ' r = gi σ r) ∧ (∀ r, r ≠ 23 → ga σ' r = ga σ r) ∧ (∀ r, gb σ' r = gb σ r) := by
  obtain ⟨d, hw, st, gd, hL, hE⟩ := I
  have gd' := gd
  obtain ⟨g1, g2, g3, g4, g5, g6, g7, g8, g9, g10, g11⟩ := gd'
  -- where the group stands
  have wh : ∃ (x : Int32) (p : Nat → Int32), f_G_enter N σ (nI q) = f_G_enter_32 N N (si σ 20 (nI q)) x 0 ∧ (∀ i, i < 3 → ((x >>> ((4 * nI i) &&& 31)) &&& 15) - 1 = p i) ∧ PK ns h T p ∧ ∀ i, i < ng → sem nL (CP p) (fun _ => none) (τ (gT i)) = .ok (ky q i) := by
    unfold f_G_enter
    rw [nm_eq, ckb_nI (show q < 512 by omega) (by decide), nI_clamp (show q < 2 ^ 31 by omega)]
    rcases g11 q hq with ⟨z1, z2⟩ | ⟨f, z1, z2, z3, z4⟩
    · refine ⟨0, fun _ => -1, by rw [if_pos (show ga (si σ 20 (nI q)) 25 q = -1 from z2)], by decide, pos_m1, fun i hi => by omega⟩
    · refine ⟨pkv (pos f), pos f, ?_, unpk z4.1.1, z4.1, z4.2⟩
      rw [show ga (si σ 20 (nI q)) 25 q = nI f from z2, if_neg (nI_ne_m1 (by omega)), ckb_nI z1 (by decide), nI_clamp (show f < 2 ^ 31 by omega), show ga (si σ 20 (nI q)) 28 f = pkv (pos f) from z3]
  obtain ⟨x, p, e1, e2, e3, e4⟩ := wh
  obtain ⟨σ', y1, y2, y3, y4, y5⟩ := x_ent N (by omega) (σ := si σ 20 (nI q)) e2
  have c1 : ∀ r, r ≠ 20 → gi σ' r = gi σ r := fun r hr => by rw [y2, gi_si, if_neg hr]
  have sx : SX σ σ' := ⟨fun r hr => c1 r (fun z => absurd hr (by rw [z]; decide)), fun r hr => (y3 r (fun z => absurd hr (by rw [z]; decide))).trans rfl, fun r _ => y4 r⟩
  refine ⟨σ', p, e1.trans y1, ⟨d.same sx sm_gn, hw, rfl, by rw [y2]; rfl, y5, st.same sx sm_gn, gd.same (c1 _ (by decide)) (fun r hr => y3 r (fun z => absurd hr (by rw [z]; decide))) (fun r _ => y4 r) rfl rfl rfl rfl rfl rfl rfl, e3, e4, hq⟩, sx, fun i hi => by rw [y5 i hi]; exact e3.1 i hi, c1, fun r hr => y3 r hr, fun r => y4 r⟩
theorem gg_loop (N : Nat) (hN : 600 < N) {nt n m ns ng ni no U R GX : Nat} {w h T : Nat → Nat} {τ : Nat → Tr} {K : Nat → Nat} {D : Nat → Bool} {CP : (Nat → Int32) → Nat → Option Int64} {gT gr : Nat → Nat} {ky arg : Nat → Nat → Option Int64} {pos : Nat → Nat → Int32} :
    ∀ (d q fu fu' : Nat) (σ ρ : St) (a : Nat), Ig nt n m ns ng ni no U R GX w h T τ K D CP gT gr ky arg pos σ ρ → AnsR σ ρ a ni → q + d = GX → d < fu → d < fu' →
    ∃ c σ' ρ', f_R_giveGroups_23 N true fu σ (nI q) = some (c, σ') ∧ f_M_goThroughGroups_21 N fu' ρ (nI q) = some ((), ρ') ∧ Ende nt n m ns ng ni no w h τ σ' ρ' ∧ ((c = 0 ∧ gi ρ' 14 = 0 ∧ ∃ a', AnsR σ' ρ' a' ni) ∨ (¬ c = 0 ∧ gi ρ' 14 = c)) := by
  intro d
  induction d with
  | zero =>
    intro q fu fu' σ ρ a I hA hq hfu hfu'
    obtain ⟨fu, rfl⟩ : ∃ q, fu = q + 1 := ⟨fu - 1, by omega⟩
    obtain ⟨fu', rfl⟩ : ∃ q, fu' = q + 1 := ⟨fu' - 1, by omega⟩
    obtain ⟨d, hw, st, gd, hL, hE⟩ := I
    have g512 := gd.2.2.1
    have e : q = GX := by omega
    subst e
    refine ⟨0, σ, si ρ 18 (-1), ?_, ?_, ⟨d.same SX.rfl sm_gn, hL, hE.1, hE.2.1, hE.2.2.1, hE.2.2.2⟩, Or.inl ⟨rfl, hw, a, hA.1, hA.2.1, hA.2.2.1, hA.2.2.2⟩⟩
    · show f_R_giveGroups_23_b N true (f_R_giveGroups_23 N true fu) σ (nI q) = _
      unfold f_R_giveGroups_23_b
      rw [gd.1, if_pos (nI_le (Nat.le_refl _) (by omega))]
    · show f_M_goThroughGroups_21_b N (f_M_goThroughGroups_21 N fu') ρ (nI q) = _
      unfold f_M_goThroughGroups_21_b
      rw [gd.2.1, if_pos (nI_le (Nat.le_refl _) (by omega)), nm_eq]
  | succ d ih =>
    intro q fu fu' σ ρ a I hA hq hfu hfu'
    obtain ⟨fu, rfl⟩ : ∃ q, fu = q + 1 := ⟨fu - 1, by omega⟩
    obtain ⟨fu', rfl⟩ : ∃ q, fu' = q + 1 := ⟨fu' - 1, by omega⟩
    have I' := I
    obtain ⟨dd, hw, st, gd, hL, hE⟩ := I'
    have g512 := gd.2.2.1
    have n60 := dd.2.1.1
    obtain ⟨σ1, p, x1, S, sx1, iL1, c1, c2, c3⟩ := g_enter N hN I (show q < GX by omega)
    obtain ⟨ρ1, hρ1⟩ : ∃ s, s = si ρ 18 (nI q) := ⟨_, rfl⟩
    rw [← hρ1] at S
    have A1 : AnsR σ1 ρ1 a ni := by
      obtain ⟨a1, a2, a3, a4⟩ := hA
      refine ⟨a1, (c1 _ (by decide)).trans a2, by rw [hρ1]; exact a3, fun r hr => ⟨fun j hj => cel_same (by rw [c3]) (by rw [hρ1]; rfl) (by rw [hρ1]; rfl) ((a4 r hr).1 j hj), nbs_same (by rw [c2 _ (by decide)]) (fun j hj => by rw [hρ1]; rfl) (a4 r hr).2⟩⟩
    have E1 : AnsE σ1 ρ1 := ⟨(c1 _ (by decide)).trans hE.1, (c1 _ (by decide)).trans hE.2.1, (c1 _ (by decide)).trans hE.2.2.1, by rw [hρ1]; exact hE.2.2.2⟩
    have hx : f_R_giveGroups_23 N true (fu + 1) σ (nI q) = if gi σ1 5 = -1 then f_R_giveGroups_73 N true (f_R_giveGroups_23 N true fu) σ1 (nI q) 1 else bd (f_ev N true 130 1 σ1 (gi σ1 5) 0) fun r5 s6 => f_R_giveGroups_73 N true (f_R_giveGroups_23 N true fu) s6 (nI q) r5 := by
      show f_R_giveGroups_23_b N true (f_R_giveGroups_23 N true fu) σ (nI q) = _
      unfold f_R_giveGroups_23_b
      rw [gd.1, if_neg (nI_ge (show q < GX by omega) (by omega)), x1, bd_eq]
    have hm : f_M_goThroughGroups_21 N (fu' + 1) ρ (nI q) = if gi ρ1 5 < 0 then (bd (f_M_giveRow N ρ1) fun _ s5 => f_M_goThroughGroups_21 N fu' s5 (nI (q + 1))) else bd (f_M_isTrue N ρ1 (gi ρ1 5)) fun r6 s7 => if r6 = 0 then f_M_goThroughGroups_21 N fu' s7 (nI (q + 1)) else bd (f_M_giveRow N s7) fun _ s5 => f_M_goThroughGroups_21 N fu' s5 (nI (q + 1)) := by
      show f_M_goThroughGroups_21_b N (f_M_goThroughGroups_21 N fu') ρ (nI q) = _
      unfold f_M_goThroughGroups_21_b f_M_goThroughGroups_59
      rw [gd.2.1, if_neg (nI_ge (show q < GX by omega) (by omega)), if_pos hw, nm_eq, nI_1, ← hρ1]
    -- on to the next group
    have nxt : ∀ (σ2 ρ2 : St) (a2 : Nat), Sq nt n m ns ng ni no U R GX q w h T τ K D CP gT gr ky arg pos p σ2 ρ2 → IvL σ2 → AnsE σ2 ρ2 → AnsR σ2 ρ2 a2 ni → ∃ c σ' ρ', f_R_giveGroups_23 N true fu σ2 (nI (q + 1)) = some (c, σ') ∧ f_M_goThroughGroups_21 N fu' ρ2 (nI (q + 1)) = some ((), ρ') ∧ Ende nt n m ns ng ni no w h τ σ' ρ' ∧ ((c = 0 ∧ gi ρ' 14 = 0 ∧ ∃ a', AnsR σ' ρ' a' ni) ∨ (¬ c = 0 ∧ gi ρ' 14 = c)) := by
      intro σ2 ρ2 a2 S2 L2 E2 A2
      exact ih (q + 1) fu fu' σ2 ρ2 a2 ⟨S2.1, S2.2.1, S2.2.2.2.2.2.1, S2.2.2.2.2.2.2.1, L2, E2⟩ A2 (by omega) (by omega) (by omega)
    -- a row is given
    have give : ∀ (σ2 ρ2 : St), Sq nt n m ns ng ni no U R GX q w h T τ K D CP gT gr ky arg pos p σ2 ρ2 → IvL σ2 → AnsE σ2 ρ2 → AnsR σ2 ρ2 a ni → ∃ c σ' ρ', f_R_giveGroups_73 N true (f_R_giveGroups_23 N true fu) σ2 (nI q) 1 = some (c, σ') ∧ (bd (f_M_giveRow N ρ2) fun _ s5 => f_M_goThroughGroups_21 N fu' s5 (nI (q + 1))) = some ((), ρ') ∧ Ende nt n m ns ng ni no w h τ σ' ρ' ∧ ((c = 0 ∧ gi ρ' 14 = 0 ∧ ∃ a', AnsR σ' ρ' a' ni) ∨ (¬ c = 0 ∧ gi ρ' 14 = c)) := by
      intro σ2 ρ2 S2 L2 E2 A2
      obtain ⟨c, σ3, ρ3, z1, z2, z3, z4, z5⟩ := g_row N (by omega) true (gv_g N hN) σ2 ρ2 S2 A2
      have L3 : IvL σ3 := fun i hi => by rw [z3.2.1 23 (by decide)]; exact L2 i hi
      have E3 : AnsE σ3 ρ3 := ⟨(z3.1 _ (by decide)).trans E2.1, (z3.1 _ (by decide)).trans E2.2.1, (z3.1 _ (by decide)).trans E2.2.2.1, (z4.1 _ (by decide) (by decide) (by decide) (by decide)).trans E2.2.2.2⟩
      unfold f_R_giveGroups_73 f_R_giveGroups_95
      rw [if_pos rfl, z1, z2, bd_eq, bd_eq, nI_1]
      rcases z5 with ⟨y1, y2, y3⟩ | ⟨y1, y2⟩
      · rw [if_pos y1]
        exact nxt σ3 ρ3 (a + 1) ((gv_g N hN).2.1 σ2 ρ2 σ3 ρ3 S2 z3 z4 y2) L3 E3 y3
      · rw [if_neg y1, m_gstop (by omega) (by rw [y2]; exact y1)]
        refine ⟨c, σ3, _, rfl, rfl, ⟨(S2.1.same z3.sx z4.sm).same SX.rfl sm_gn, L3, E3.1, E3.2.1, E3.2.2.1, E3.2.2.2⟩, Or.inr ⟨y1, y2⟩⟩
    rw [hx, hm]
    rcases S.1.2.2.2.2.2.2.2.1 with ⟨y1, y2⟩ | ⟨j, j1, j2, j3, j4⟩
    · rw [if_pos y1, if_pos (show gi ρ1 5 < 0 by rw [y2]; decide)]
      exact give σ1 ρ1 S iL1 E1 A1
    · rw [j2, j3, if_neg (nI_ne_m1 (show j < 2 ^ 31 by omega)), if_neg (show ¬ nI j < 0 from nI_pos (by omega))]
      obtain ⟨t, l, b, ρ2, e1, e2, mf, e3⟩ := g_cond N hN S j1 j2 j3 j4
      rw [e1, e2, bd_eq, bd_eq]
      have A2 := ansR_mf (l := l) A1 mf
      have E2 : AnsE (wL σ1 l) ρ2 := ⟨E1.1, E1.2.1, E1.2.2.1, (mf.1 _ (by decide) (by decide) (by decide)).trans E1.2.2.2⟩
      rcases e3 with ⟨u1, u2, u3, u4⟩ | ⟨u1, u2, u3, u4⟩
      · rw [if_pos u4, m_gstop (by omega) (by rw [u3]; exact u2)]
        unfold f_R_giveGroups_73 f_R_giveGroups_95
        rw [if_neg (show ¬ t = 1 from fun z => by rw [z] at u1; exact absurd u1 (by decide)), if_neg (show ¬ (0 : Int32) ≤ t from fun z => absurd u1 (Int32.not_lt.mpr z)), if_neg u2]
        exact ⟨t, _, _, rfl, rfl, ⟨(S.1.same (xa_wL (l := l)).sx mf.sm).same SX.rfl sm_gn, iL1, E2.1, E2.2.1, E2.2.2.1, E2.2.2.2⟩, Or.inr ⟨u2, u3⟩⟩
      · have S2 := (gv_g N hN).2.1 σ1 ρ1 (wL σ1 l) ρ2 S xa_wL mf.mb u2
        by_cases cb : b = 0
        · rw [if_pos cb]
          unfold f_R_giveGroups_73 f_R_giveGroups_95
          rw [if_neg (show ¬ t = 1 from fun z => by have := u4.mp z; rw [cb] at this; exact absurd this (by decide)), if_pos u1, if_pos rfl, nI_1]
          exact nxt _ ρ2 a S2 iL1 E2 A2
        · have b1 : b = 1 := by rcases u3 with z | z; exact absurd z cb; exact z
          rw [if_neg cb, u4.mpr b1]
          exact give _ ρ2 S2 iL1 E2 A2

