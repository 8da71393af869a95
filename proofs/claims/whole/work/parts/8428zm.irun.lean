/-! run, from its call to its end (own rows) -/
theorem gf_0 {ng U GX : Nat} {K : Nat → Nat} {D : Nat → Bool} {Q : (Nat → Int32) → (Nat → Option Int64) → Prop} {σ ρ : St} (h1 : gi σ 19 = 0) (h2 : gi σ 18 = nI GX) (h3 : gi ρ 17 = 0) (h4 : gi ρ 16 = 0) (h5 : (0 < ng ∧ GX = 0) ∨ (ng = 0 ∧ GX = 1 ∧ ga σ 25 0 = -1 ∧ ∀ s, s < 8 → ga σ 30 s = 0 ∧ gb σ 5 s = 0)) :
    GF ng U K D Q 0 0 0 GX 0 (fun _ => 0) (fun _ _ => none) (fun _ _ => none) (fun _ _ => 0) σ ρ := by
  have g1 : ∀ q, q < GX → q = 0 ∧ ga σ 25 0 = -1 ∧ ∀ s, s < 8 → ga σ 30 s = 0 ∧ gb σ 5 s = 0 := by
    intro q hq
    rcases h5 with z | z
    · omega
    · exact ⟨by omega, z.2.2⟩
  refine ⟨h1, h2, h3, h4, ?_, fun r hr => by omega, fun q hq => by omega, ⟨fun q hq => ?_, fun r hr => by omega⟩, fun r hr => by omega, ⟨fun r hr => by omega, fun r s hr => by omega, fun q s hq hs => ?_⟩, fun r s hr => by omega, fun q s hq => by omega, fun q s hs => by show okF 0; decide, fun q hq => by omega⟩
  · rcases h5 with z | z
    · exact Or.inl ⟨z.1, z.2, by omega⟩
    · exact Or.inr ⟨z.1, z.2.1, Or.inl ⟨rfl, rfl⟩⟩
  · obtain ⟨e, f, -⟩ := g1 q hq
    subst e
    exact Or.inl ⟨fun i hi => by omega, f⟩
  · obtain ⟨e, -, f⟩ := g1 q hq
    subst e
    have e2 : 8 * 0 + s = s := by omega
    rw [e2]
    exact f s hs
theorem x_clr (N : Nat) (hN : 100 < N) {σ : St} {ng : Nat} (h4 : ng ≤ 4) (hg : gi σ 6 = nI ng) :
    ∃ σ' GX, f_R_prepare_71 N true σ = some (0, true, σ') ∧ XG σ σ' ∧ gi σ' 19 = 0 ∧ gi σ' 18 = nI GX ∧ ((0 < ng ∧ GX = 0) ∨ (ng = 0 ∧ GX = 1 ∧ ga σ' 25 0 = -1 ∧ ∀ s, s < 8 → ga σ' 30 s = 0 ∧ gb σ' 5 s = 0)) := by
  unfold f_R_prepare_71 f_R_prepare_93 f_G_clear
  rw [if_pos rfl, hg]
  by_cases c : ng = 0
  · rw [if_pos (show nI ng = 0 by rw [c]; rfl), nm_eq, nm_eq, if_neg (show ¬ (1 : Int32) = 0 by decide)]
    obtain ⟨σ1, a1, a2, a3, a4, a5, a6, a7, a8, a9⟩ := x_open N hN (σ := si (si σ 19 0) 18 0) (q := 0) (by decide)
    rw [show f_G_openGroup N (si (si σ 19 0) 18 0) 0 = _ from a1, bd_eq, bd_eq]
    refine ⟨σ1, 1, rfl, (xg_rc.trans xg_gc).trans a2, a4, a3, Or.inr ⟨c, rfl, by rw [a5, upd_at, if_pos rfl], fun s hs => ⟨by rw [a8, if_pos (by omega)], by rw [a9, if_pos (by omega)]⟩⟩⟩
  · rw [if_neg (show ¬ nI ng = 0 from fun z => c ((nI_z (by omega)).mp z)), nm_eq, nm_eq, if_pos rfl, bd_eq]
    exact ⟨_, 0, rfl, xg_rc.trans xg_gc, rfl, rfl, Or.inl ⟨by omega, rfl⟩⟩
theorem mk_sx {σ : St} : SX σ (mkX σ) ∧ (∀ r, r < 18 → gi (mkX σ) r = gi σ r) ∧ ga (mkX σ) 23 = ga σ 23 := by
  refine ⟨⟨fun r q => ?_, fun r q => ?_, fun r q => ?_⟩, fun r q => ?_, rfl⟩
  · unfold mkX
    simp only [gi_sb, gi_sa]
    rw [gi_si, if_neg (fun z => absurd q (by rw [z]; decide)), gi_si, if_neg (fun z => absurd q (by rw [z]; decide)), gi_si, if_neg (fun z => absurd q (by rw [z]; decide))]
  · unfold mkX
    have h : r < 20 := q
    simp only [ga_sb, ga_sa, ga_si]
    repeat rw [if_neg (by omega)]
  · unfold mkX
    have h : r < 2 := q
    simp only [gb_sb, gb_sa, gb_si]
    repeat rw [if_neg (by omega)]
  · unfold mkX
    simp only [gi_sb, gi_sa]
    rw [gi_si, if_neg (fun z => absurd q (by rw [z]; decide)), gi_si, if_neg (fun z => absurd q (by rw [z]; decide)), gi_si, if_neg (fun z => absurd q (by rw [z]; decide))]
theorem bg_is {α β γ δ : Type} {a : α} {b : β} {c : γ} {k : α → β → γ → Option δ} : bg (some (a, b, c)) k = k a b c := rfl
theorem sx_run {σ : St} {x y : Int32} : SX σ (si (si σ 16 x) 17 y) := ⟨fun r q => by rw [gi_si, if_neg (fun z => absurd q (by rw [z]; decide)), gi_si, if_neg (fun z => absurd q (by rw [z]; decide))], fun _ _ => rfl, fun _ _ => rfl⟩
theorem i_run (N : Nat) (hN : 1200 < N) (g : Bool) (σ ρ : St) (H : Inv g σ ρ) : ∃ (r : Int32) (g' : Bool) (σ' ρ' : St), f_Q_run N g σ = some (r, g', σ') ∧ f_M_run N ρ = some (r, ρ') ∧ Inv g' σ' ρ' := by
  obtain ⟨nt, n, m, ns, ng, ni, no, w, h, τ, hT, hE, hQ, hA, hL⟩ := id H
  have d : Dat σ ρ nt n m ns ng ni no w h τ := ⟨hT, hE, hQ⟩
  obtain ⟨σ0, hσ0⟩ : ∃ s, s = si (si (si (si σ 12 0) 13 0) 14 0) 15 0 := ⟨_, rfl⟩
  have ec : f_A_clear N σ = some ((), σ0) := by
    unfold f_A_clear
    rw [nm_eq, nm_eq, nm_eq, nm_eq, hσ0]
  have sx0 : SX σ σ0 := by rw [hσ0]; exact sx_clear
  have d0 := d.same sx0 (SM.rfl (σ := ρ))
  have L0 : IvL σ0 := by rw [hσ0]; exact hL
  obtain ⟨cc, f, x1, x2⟩ := x_first N (by omega) d0
  obtain ⟨σ1, hσ1⟩ : ∃ s, s = sa σ0 22 f := ⟨_, rfl⟩
  rw [← hσ1] at x1
  have sx1 : SX σ0 σ1 := by rw [hσ1]; exact sx_loose
  have L1 : IvL σ1 := by rw [hσ1]; exact L0
  have a1 : gi σ1 12 = 0 ∧ gi σ1 13 = 0 ∧ gi σ1 15 = 0 ∧ gi σ1 14 = 0 := by rw [hσ1, hσ0]; exact ⟨rfl, rfl, rfl, rfl⟩
  have er : f_Q_run N g σ = bg (f_R_prepare N g σ0) fun r3 g5 s4 => if r3 = 0 then (bd (f_jf N g5 6 s4 0) fun r11 s12 => f_Q_run_28 N g5 s12 r11) else f_Q_run_28 N g5 s4 r3 := by
    unfold f_Q_run
    rw [ec, bd_eq]
  rcases m_headf N (by omega) d0 x2 with ⟨c0, ρ1, m1, m2, m3, m4⟩ | ⟨c0, hs, hi, co, ag, hb, ρ1, m1, m2, m3, m4, m5, m6, m7, m8, m9⟩
  · have ep : f_R_prepare N g σ0 = some (cc, g, σ1) := by
      unfold f_R_prepare
      rw [x1, bd_eq, if_neg c0]
    have d1 := d0.same sx1 m2.sm
    refine ⟨cc, g, σ1, ρ1, ?_, m1, nt, n, m, ns, ng, ni, no, w, h, τ, d1.1, d1.2.1, d1.2.2, ivA_no ⟨a1.1, a1.2.1, a1.2.2.1, m4⟩ m3, L1⟩
    rw [er, ep]
    rw [bg_is, if_neg c0]
    unfold f_Q_run_28 f_Q_run_40
    rw [if_neg c0, if_neg c0]
  · have d1 := d0.same sx1 (SM.rfl (σ := ρ))
    obtain ⟨r, g1, g2, g3⟩ := x_grouped N (by omega) d1
    obtain ⟨U, hU⟩ : ∃ u, u = late σ0 τ ni := ⟨_, rfl⟩
    have gi1 : gi σ1 = gi σ0 := by rw [hσ1]; rfl
    have gg : Grp σ1 τ ng ni ↔ Grp σ0 τ ng ni := by
      unfold Grp
      rw [late_sx sx1, gi1]
    obtain ⟨σ2, hσ2⟩ : ∃ s, s = si (si σ1 16 r) 17 (nI U) := ⟨_, rfl⟩
    have sx2 : SX σ1 σ2 := by rw [hσ2]; exact sx_run
    have ep : f_R_prepare N g σ0 = if r = 0 then some (0, g, σ2) else if g = true then f_R_prepare_71 N g σ2 else f_R_prepare_71 N true (mkX σ2) := by
      have dl : Dat (si σ1 16 r) ρ nt n m ns ng ni no w h τ := d1.same (⟨fun r q => by rw [gi_si, if_neg (fun z => absurd q (by rw [z]; decide))], fun _ _ => rfl, fun _ _ => rfl⟩ : SX σ1 (si σ1 16 r)) SM.rfl
      have le : late (si σ1 16 r) τ ni = U := by rw [hU]; exact (show late σ1 τ ni = late σ0 τ ni from late_sx sx1)
      unfold f_R_prepare
      rw [x1, bd_eq, if_pos c0, g1, bd_eq, ckt_b g2, nm_eq, (x_late N (by omega) dl).1, bd_eq, nm_eq, le, ← hσ2, show gi σ2 16 = r by rw [hσ2]; rfl, nm_eq]
    have L2 : IvL σ2 := by rw [hσ2]; exact L1
    have a2 : gi σ2 12 = 0 ∧ gi σ2 13 = 0 ∧ gi σ2 15 = 0 ∧ gi σ2 14 = 0 := by rw [hσ2]; exact a1
    have u2 : gi σ2 16 = r ∧ gi σ2 17 = nI U := by rw [hσ2]; exact ⟨rfl, rfl⟩
    obtain ⟨ρ2, hρ2⟩ : ∃ s, s = si (si (si ρ1 16 0) 17 0) 18 (-1) := ⟨_, rfl⟩
    have sm12 : SM ρ1 ρ2 := by
      rw [hρ2]
      exact ⟨fun r q => by rw [gi_si, if_neg (fun z => absurd q (by rw [z]; decide)), gi_si, if_neg (fun z => absurd q (by rw [z]; decide)), gi_si, if_neg (fun z => absurd q (by rw [z]; decide))], fun _ _ => rfl, fun _ _ => rfl⟩
    have sm2 : SM ρ ρ2 := m2.sm.trans sm12
    have w2 : gi ρ2 14 = 0 ∧ gi ρ2 18 = -1 ∧ gi ρ2 12 = 0 ∧ gi ρ2 13 = 0 ∧ gi ρ2 15 = gi ρ1 15 ∧ gi ρ2 16 = 0 ∧ gi ρ2 17 = 0 ∧ ga ρ2 = ga ρ1 := by rw [hρ2]; exact ⟨m5, rfl, m3, m4, rfl, rfl, rfl, rfl⟩
    -- what holds at the start of the join, whatever the class has made
    have base : ∀ σ3, SX σ2 σ3 → gi σ3 12 = 0 → gi σ3 13 = 0 → gi σ3 15 = 0 → ga σ3 23 = ga σ2 23 → Base nt n m ns ng ni no w h (tb ρ2) τ σ3 ρ2 := by
      intro σ3 sx e1 e2 e3 e4
      have sx03 : SX σ0 σ3 := (sx1.trans sx2).trans sx
      exact ⟨d0.same sx03 sm2, w2.1, w2.2.1, colsok_sx sx03 sm2 co, aggok_sx sx03 ag, fun _ _ => rfl, fun i hi => by rw [e4]; exact L2 i hi, e1, e2, e3, w2.2.2.2.1⟩
    rw [er, m1, ep]
    by_cases cr : r = 0
    · rw [if_pos cr]
      rw [bg_is, if_pos rfl]
      have ngp : ¬ Grp σ0 τ ng ni := fun z => by have := g3.mpr (gg.mpr z); rw [cr] at this; exact absurd this (by decide)
      have l0 : U = 0 := by
        rw [hU]
        exact Classical.not_not.mp (fun z => ngp (Or.inr (Or.inr z)))
      have gm : gi ρ1 15 = 0 := by
        rcases m6 with z | z
        · exact z
        · exact absurd (m7.mp z) ngp
      have J : Ju nt n m ns ng ni no w h (tb ρ2) τ 0 σ2 ρ2 := ⟨base σ2 SX.rfl a2.1 a2.2.1 a2.2.2.1 rfl, u2.1.trans cr, w2.2.2.2.2.1.trans gm, by rw [late_sx (sx1.trans sx2), ← hU]; exact l0, 0, by omega, a2.2.2.2, w2.2.2.1, fun r hr => by omega⟩
      rw [hρ2] at J
      obtain ⟨q, σ', ρ', y1, y2, y3⟩ := run_u N (by omega) g hs J
      exact ⟨q, g, σ', ρ', y1, y2, y3⟩
    · rw [if_neg cr]
      have r1 : r = 1 := by rcases g2 with z | z; exact absurd z cr; exact z
      have gp : Grp σ0 τ ng ni := gg.mp (g3.mp r1)
      have gm : gi ρ1 15 = 1 := m7.mpr gp
      have bo : BndOk ρ τ (isG' ρ τ ng) ni := Classical.not_not.mp (fun z => hb ⟨gp, z⟩)
      obtain ⟨σ3, hσ3⟩ : ∃ s, s = (if g = true then σ2 else mkX σ2) := ⟨_, rfl⟩
      have f3 : SX σ2 σ3 ∧ (∀ r, r < 18 → gi σ3 r = gi σ2 r) ∧ ga σ3 23 = ga σ2 23 ∧ (if g = true then f_R_prepare_71 N g σ2 else f_R_prepare_71 N true (mkX σ2)) = f_R_prepare_71 N true σ3 := by
        cases g with
        | true =>
          rw [if_pos rfl] at hσ3
          rw [hσ3, if_pos rfl]
          exact ⟨SX.rfl, fun _ _ => rfl, rfl, rfl⟩
        | false =>
          rw [if_neg (by decide)] at hσ3
          rw [hσ3, if_neg (by decide)]
          exact ⟨mk_sx.1, mk_sx.2.1, mk_sx.2.2, rfl⟩
      obtain ⟨sx3, gi3, at3, ep3⟩ := f3
      have sx03 : SX σ0 σ3 := (sx1.trans sx2).trans sx3
      have d3 := d0.same sx03 sm2
      obtain ⟨σ4, GX, k1, k2, k3, k4, k5⟩ := x_clr N (by omega) (σ := σ3) d3.2.2.2.1.1 d3.2.2.2.1.2.1
      rw [ep3, k1]
      rw [bg_is, if_pos rfl]
      have gi4 : ∀ r, r < 18 → gi σ4 r = gi σ2 r := fun r hr => (k2.1 r (fun z => absurd hr (by rw [z]; decide)) (fun z => absurd hr (by rw [z]; decide)) (fun z => absurd hr (by rw [z]; decide))).trans (gi3 r hr)
      have at4 : ga σ4 23 = ga σ2 23 := (k2.2.1 _ (by decide) (by decide) (by decide) (by decide) (by decide) (by decide) (by decide)).trans at3
      have B := base σ4 (sx3.trans k2.sx) ((gi4 _ (by decide)).trans a2.1) ((gi4 _ (by decide)).trans a2.2.1) ((gi4 _ (by decide)).trans a2.2.2.1) at4
      have jb : Jb nt n m ns ng ni no U w h (tb ρ2) τ (Ks ρ2 τ) (Ds ρ2 τ) (colP ρ2) (gE ρ2) σ4 ρ2 := by
        refine ⟨B, (gi4 _ (by decide)).trans (u2.1.trans r1), w2.2.2.2.2.1.trans gm, ?_, (gi4 _ (by decide)).trans u2.2, fun s hs => slots B.1.2.1 hs, fun s hs => ?_, rfl, fun _ _ => rfl, (bndok_sm' sm2).mpr bo⟩
        · rw [late_sx (sx03.trans k2.sx), ← hU]
        · have m8' := B.1.2.1.2.1
          rw [w2.2.2.2.2.2.2.2]
          exact ⟨m8 s (by omega), by rw [hU]; exact m9 s hs⟩
      have J : Jg nt n m ns ng ni no U w h (tb ρ2) τ (Ks ρ2 τ) (Ds ρ2 τ) (colP ρ2) (gE ρ2) 0 σ4 ρ2 := ⟨jb, (gi4 _ (by decide)).trans a2.2.2.2, w2.2.2.1, GX, 0, _, _, _, _, gf_0 k3 k4 w2.2.2.2.2.2.2.1 w2.2.2.2.2.2.1 k5⟩
      obtain ⟨T', hT'⟩ : ∃ f, f = tb ρ2 := ⟨_, rfl⟩
      obtain ⟨K', hK'⟩ : ∃ f, f = Ks ρ2 τ := ⟨_, rfl⟩
      obtain ⟨D', hD'⟩ : ∃ f, f = Ds ρ2 τ := ⟨_, rfl⟩
      obtain ⟨C', hC'⟩ : ∃ f, f = colP ρ2 := ⟨_, rfl⟩
      obtain ⟨G', hG'⟩ : ∃ f, f = gE ρ2 := ⟨_, rfl⟩
      rw [← hT', ← hK', ← hD', ← hC', ← hG', hρ2] at J
      obtain ⟨q, σ', ρ', y1, y2, y3⟩ := run_g N (by omega) hs J
      exact ⟨q, true, σ', ρ', y1, y2, y3⟩

