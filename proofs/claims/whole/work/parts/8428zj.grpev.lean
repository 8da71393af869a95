/-! an expression is worked out for a group, on both sides (own rows) -/
theorem sm_sar {ρ : St} {p : Nat → Int32} : SM ρ (sa ρ 19 p) := ⟨fun _ _ => rfl, fun r q => by rw [ga_sa, if_neg (fun z => absurd q (by rw [z]; decide))], fun _ _ => rfl⟩
/-- the state at group q, the class standing at p -/
def Sq (nt n m ns ng ni no U R GX q : Nat) (w h T : Nat → Nat) (τ : Nat → Tr) (K : Nat → Nat) (D : Nat → Bool) (CP : (Nat → Int32) → Nat → Option Int64) (gT gr : Nat → Nat) (ky arg : Nat → Nat → Option Int64) (pos : Nat → Nat → Int32) (p : Nat → Int32) (σ ρ : St) : Prop :=
  Dat σ ρ nt n m ns ng ni no w h τ ∧ gi ρ 14 = 0 ∧ gi ρ 18 = nI q ∧ gi σ 20 = nI q ∧ (∀ i, i < 3 → ga σ 23 i = p i) ∧
  (ColsOk σ ρ w τ ns ng ni ∧ AggOk σ τ ns ng ∧ (∀ k, k < ns → tb ρ k = T k) ∧ late σ τ ni = U ∧ (∀ s, s < m → Slt σ ρ τ n K D s) ∧ BndOk ρ τ (isG' ρ τ ng) ni ∧ colP ρ = CP ∧ ∀ j, j < ng → gE ρ j = gT j) ∧
  GD ng U R GX K D (Qg ns ng h T τ CP gT) gr ky arg pos σ ρ ∧ PK ns h T p ∧ (∀ i, i < ng → sem nL (CP p) (fun _ => none) (τ (gT i)) = .ok (ky q i)) ∧ q < GX
theorem ev_grp (N : Nat) (hN : 600 < N) {nt n m ns ng ni no U R GX q : Nat} {w h T : Nat → Nat} {τ : Nat → Tr} {K : Nat → Nat} {D : Nat → Bool} {CP : (Nat → Int32) → Nat → Option Int64} {gT gr : Nat → Nat} {ky arg : Nat → Nat → Option Int64} {pos : Nat → Nat → Int32} {p : Nat → Int32} {σ ρ : St} (S : Sq nt n m ns ng ni no U R GX q w h T τ K D CP gT gr ky arg pos p σ ρ) {e : Nat} (he : e < n) (hc : ∀ b, (tcb (τ e)).testBit b = true → Pc ρ w ns b) (ha : ∀ s, (tab (τ e)).testBit s = true → U.testBit s = true) (hb : bnd (isG' ρ τ ng) (τ e)) :
    ∃ r, Rok (τ e) r ∧ (¬ tru (τ e) → ∃ l', f_ev N true 130 0 σ (nI e) 0 = some (vc r, wL σ l') ∧ ∀ v, r = .ok (some v) → l' 0 = v) ∧ (tru (τ e) → ∃ l', f_ev N true 130 1 σ (nI e) 0 = some (tc r, wL σ l')) ∧ ∃ ρ', f_M_workOut N ρ (nI e) = some ((), ρ') ∧ MF ρ ρ' ∧ Wk ρ' r := by
  obtain ⟨d, hw, hgn, hcu, hat, ⟨co, ag, hT, hU, hS, -, hCP, hgE⟩, ⟨g1, g2, g3, g4, g5, g6, g7, g8, g9, g10, g11⟩, hPK, hky, hq⟩ := S
  obtain ⟨hDT, hE, hQ⟩ := id d
  have n60 := hE.1
  have m8 := hE.2.1
  have gr4 := hQ.2.1.1
  have hp := hE.2.2.2.2.2.2.1 e he
  -- where the class stands
  have d' : Dat σ (sa ρ 19 p) nt n m ns ng ni no w h τ := d.same SX.rfl sm_sar
  have hR' : Rw σ (sa ρ 19 p) h ns := by
    intro k hk
    have k3 := d.2.2.1.1
    refine ⟨hat k (by omega), ?_⟩
    rw [show tb (sa ρ 19 p) k = T k from hT k hk]
    exact hPK.2 k hk
  have bC : ∀ b, Pc ρ w ns b → ∀ z, CP p b = some z → okF z := fun b hb z hz => b_col d'.1 d'.2.2 hR' (Nat.le_refl _) hb z (by rw [← hCP] at hz; exact hz)
  have ale : ∀ s, (acc K D gr arg q s R).1 < 600 := fun s => by have := acc_le (K := K) (D := D) (gr := gr) (arg := arg) (q := q) (s := s) R; omega
  obtain ⟨A, hA⟩ : ∃ A : Nat → Option Int64, A = fun s => aggV (K s) (acc K D gr arg q s R) := ⟨_, rfl⟩
  have Ae : ∀ s, A s = aggV (K s) (acc K D gr arg q s R) := fun s => by rw [hA]
  have bA : ∀ s, (U.testBit s = true ∧ s < m) → ∀ z, A s = some z → okF z := fun s hs z hz => aggV_ok (ale s) (g9 q s (by omega)) (by rw [← Ae]; exact hz)
  have haQ : ∀ s, (tab (τ e)).testBit s = true → U.testBit s = true ∧ s < m := fun s z => ⟨ha s z, (slot_cols d co (by rw [hU]; exact ha s z)).1⟩
  have ta : tall (Pc ρ w ns) (fun s => U.testBit s = true ∧ s < m) (τ e) := tall_bits hp.2.2.1 hc haQ
  have hXC : ∀ b, Pc ρ w ns b → b < 12 → ∀ l, ∃ l', f_V_lookUp N (wL σ l) (nI b) = some (vc (.ok (CP p b)), wL σ l') ∧ (∀ v, CP p b = some v → l' 0 = v) ∧ (CP p b = none → l' = l) := fun b hb h12 l => by
    rw [← hCP]
    exact x_col N d'.1 d'.2.2 hR' (Nat.le_refl _) h12 hb l
  have hXA : ∀ s, (U.testBit s = true ∧ s < m) → s < m → ∀ l, ∃ l', f_V_ofGroup N true (wL σ l) (nI s) = some (vc (.ok (A s)), wL σ l') ∧ ∀ v, A s = some v → l' 0 = v := by
    intro s _ hs l
    obtain ⟨e', a', j', cc, -, -, -, -, -, -, -, h5, -, -, hk, -⟩ := hS s hs
    rw [Ae]
    exact x_of N (by omega) (by omega) h5 (ale s) hcu hk (g7 q s hq (by omega)).1 (g7 q s hq (by omega)).2 l
  have sok := sem_ok (L := nL) (fun t v q => by cases q) bC bA
  refine ⟨sem nL (CP p) A (τ e), sok _ hp.2.2.1 ta, ?_, ?_, ?_⟩
  · intro nt'
    obtain ⟨l', y1, y2, -⟩ := (ev_X N true hE hXC hXA bC bA (τ e) e 0 130 he rfl ta (by have := hp.2.2.2.1; omega) (by have := hp.2.2.2.1; omega)).1 nt' (gl σ)
    exact ⟨l', y1, y2⟩
  · intro yt
    exact (ev_X N true hE hXC hXA bC bA (τ e) e 0 130 he rfl ta (by have := hp.2.2.2.1; omega) (by have := hp.2.2.2.1; omega)).2 yt (gl σ)
  -- M: groups stand for parts
  have gfact : ∀ k, k < ng → gT k < n ∧ ¬ tru (τ (gT k)) ∧ tab (τ (gT k)) = 0 ∧ twf (τ (gT k)) ∧ sem nL (CP p) A (τ (gT k)) = .ok (ky q k) ∧ ∀ z, ky q k = some z → okF z := by
    intro k hk
    obtain ⟨k1, k2, k3, k4⟩ := gE_at d hk
    have ck := co.2.2.2.1 k hk
    have ab := ag.2.2 k hk
    rw [k3, oo_j (by omega)] at ck ab
    rw [hgE k hk] at k1 k4 ck ab
    have hp' := hE.2.2.2.2.2.2.1 _ k1
    have tz : tab (τ (gT k)) = 0 := ab
    have ta' : tall (Pc ρ w ns) (fun _ => False) (τ (gT k)) := tall_bits hp'.2.2.1 ck (fun s z => by rw [tz] at z; simp at z)
    have se : sem nL (CP p) A (τ (gT k)) = .ok (ky q k) := by
      rw [← hky k hk]
      exact sem_congr (fun b _ => rfl) (fun s z => z.elim) _ ta'
    refine ⟨k1, k4, tz, hp'.2.2.1, se, fun z hz => ?_⟩
    have := sem_ok (L := nL) (C := CP p) (A := A) (P := Pc ρ w ns) (Q := fun _ => False) (fun t v q => by cases q) bC (fun s z => z.elim) _ hp'.2.2.1 ta'
    exact this.2.2 k4 z (by rw [se, hz])
  have ex : ∀ t : Tr, ∃ o : Option (Option Int64), ((∀ k, k < ng → tfg (τ (gT k)) ≠ tfg t) ∧ o = none) ∨ ∃ k, k < ng ∧ tfg (τ (gT k)) = tfg t ∧ o = some (ky q k) := by
    intro t
    by_cases c : ∃ k, k < ng ∧ tfg (τ (gT k)) = tfg t
    · obtain ⟨k, k1, k2⟩ := c
      exact ⟨some (ky q k), Or.inr ⟨k, k1, k2, rfl⟩⟩
    · exact ⟨none, Or.inl ⟨fun k hk z => c ⟨k, hk, z⟩, rfl⟩⟩
  obtain ⟨L, hL⟩ := Classical.axiomOfChoice ex
  have Lsome : ∀ t v, L t = some v → ∃ k, k < ng ∧ tfg (τ (gT k)) = tfg t ∧ v = ky q k := by
    intro t v hv
    rcases hL t with ⟨-, z⟩ | ⟨k, k1, k2, z⟩
    · rw [hv] at z; cases z
    · rw [hv] at z; cases z; exact ⟨k, k1, k2, rfl⟩
  have key1 : ∀ t, twf t → ∀ v, L t = some v → sem nL (CP p) A t = .ok v := by
    intro t wt v hv
    obtain ⟨k, k1, k2, rfl⟩ := Lsome t v hv
    obtain ⟨z1, z2, z3, z4, z5, -⟩ := gfact k k1
    have : t = τ (gT k) := tfg_in z4 wt z3 k2.symm
    rw [this]; exact z5
  have oL : ∀ t v, L t = some v → ¬ tru t ∧ ∀ z, v = some z → okF z := by
    intro t v hv
    obtain ⟨k, k1, k2, rfl⟩ := Lsome t v hv
    obtain ⟨z1, z2, z3, z4, z5, z6⟩ := gfact k k1
    exact ⟨fun y => z2 ((tru_tfg _).mp (by rw [k2]; exact (tru_tfg t).mpr y)), z6⟩
  have HLs : ∀ ρ', MF ρ ρ' → HL N ρ' n τ L := by
    intro ρ' mf e' he'
    have dd := d.same SX.rfl mf.sm
    have gn' : gi ρ' 18 = nI q := (mf.1 _ (by decide) (by decide) (by decide)).trans hgn
    right
    rw [gn']
    refine ⟨nI_pos (by omega), ?_⟩
    obtain ⟨r, r1, r2⟩ := m_gl N (by omega) dd he'
    refine ⟨r, r1, ?_⟩
    have tg : ∀ k, k < ng → τ (gE ρ' k) = τ (gT k) := fun k hk => by rw [gE_sm mf.sm, hgE k hk]
    rcases r2 with ⟨y1, y2⟩ | ⟨k, y1, y2, y3, -⟩
    · left
      refine ⟨by rw [y1]; decide, ?_⟩
      rcases hL (τ e') with ⟨-, z⟩ | ⟨k, k1, k2, z⟩
      · exact z
      · exact absurd (by rw [tg k k1]; exact k2) (y2 k k1)
    · right
      rw [tg k y1] at y3
      refine ⟨by rw [y2]; exact nI_pos (by omega), ky q k, 4 * q + k, ?_, by omega, by rw [y2, nI_4'], ?_⟩
      · rcases hL (τ e') with ⟨z, -⟩ | ⟨k', k1, k2, z⟩
        · exact absurd y3 (z k y1)
        · rw [z]
          obtain ⟨a1, a2, a3, a4, a5, -⟩ := gfact k y1
          obtain ⟨b1, b2, b3, b4, b5, -⟩ := gfact k' k1
          have e3 : τ (gT k') = τ (gT k) := tfg_in a4 b4 a3 (k2.trans y3.symm)
          rw [e3, a5] at b5
          rw [Except.ok.inj b5]
      · have := g10 q hq k y1
        rw [mf.2.1 22 (by decide) (by decide) (by decide), mf.2.2 4 (by decide)]
        rcases this with z | z
        · exact Or.inl z
        · exact Or.inr ⟨z.2, z.1⟩
  have hMA : ∀ c a e', (U.testBit (c % 8) = true ∧ c % 8 < m) → e' < n → τ e' = .mulL c a → ∀ ρ' p', MF ρ ρ' → p' < 64 → gi ρ' 20 = nI p' → ∃ x fl, f_M_giveAggregate N ρ' (nI e') = some ((), gvs ρ' p' x fl) ∧ ((A (c % 8) = none ∧ fl = 1) ∨ (A (c % 8) = some x ∧ fl = 0)) := by
    intro c a e' hs he' ht ρ' p' mf hp64 htop
    have dd := d.same SX.rfl mf.sm
    obtain ⟨e2, a', j', cc, q1, q2, q3, q4, q5, q6, q7, h5, q8, q9, q10, q11, q12, q13, -⟩ := (hS _ hs.2).same SX.rfl mf.sm
    have e3 : e2 = e' := nI_j (by omega) (by omega) (q4.symm.trans ((agAt dd.2.1 hs.2 he').mpr ⟨c, a, ht, rfl⟩))
    subst e3
    -- a plain count is never distinct
    have D0 : K (c % 8) = 0 → D (c % 8) = false := by
      intro z
      obtain ⟨p1, p2, -⟩ := dd.2.1.2.2.2.2.2.2.1 e2 he'
      rw [ht] at p1 p2
      have w3 : nI (30 + c / 8 % 8) = nI (30 + K (c % 8)) := p2.1.symm.trans q8
      have w4 := nI_j (by omega) (by omega) w3
      refine q12.mp (p1.2.2.2.1.trans ?_)
      rw [if_neg (fun y => y.2 (by omega))]
    have kd : ga ρ' 3 e2 - 30 = nI (K (c % 8)) := by rw [q8]; exact kd30 _ h5
    obtain ⟨x, fl, z1, z2⟩ := m_agl N hN (ρ := ρ') (R := R) (q := q) (s := c % 8) (κ := K (c % 8)) (e := e2) (D := D) (gr := gr) (arg := arg) g4 (by omega) (by omega) h5 ((mf.1 _ (by decide) (by decide) (by decide)).trans g5) ((mf.1 _ (by decide) (by decide) (by decide)).trans hgn) (fun r hr => by rw [mf.2.1 20 (by decide) (by decide) (by decide)]; exact g6 r hr) (by omega) q4 q13
      (fun k0 r hr => by
        have := g8 r (c % 8) hr (by omega) hs.1
        unfold ArgE at this
        rw [if_neg k0] at this
        rw [mf.2.1 21 (by decide) (by decide) (by decide), mf.2.2 3 (by decide)]
        exact this)
      (fun k0 => ⟨D0 k0, fun r hr => by
        have := g8 r (c % 8) hr (by omega) hs.1
        unfold ArgE at this
        rw [if_pos k0] at this
        exact this⟩) R 0 N 0 0 0 0 0 (by omega) (by omega) (fun _ => rfl) (fun _ => ⟨rfl, rfl, fun z => absurd rfl z⟩)
    refine ⟨x, fl, ?_, ?_⟩
    · unfold f_M_giveAggregate
      rw [m_an N (by omega) dd.2.1 he' ht, bd_eq, ckb_nI (show e2 < 60 by omega) (by decide), nI_clamp (show e2 < 2 ^ 31 by omega), kd]
      rw [show f_M_giveAggregate_34 N N ρ' (nI (c % 8)) (nI (K (c % 8))) 0 0 0 0 0 0 = _ from z1, m_give hp64 htop, bd_eq]
    · rw [Ae, acc_K (K := K) (K' := fun _ => K (c % 8)) (fun _ _ => rfl)]
      exact z2
  have tm := top_L N (by omega) hE (P := fun _ => False) (Q := fun s => U.testBit s = true ∧ s < m) (L := L) (C := CP p) (A := A) HLs oL (fun b e z => z.elim) hMA (fun b z => z.elim) bA he (rch_bnd (G := isG' ρ τ ng) (fun t ht z => by
      obtain ⟨k, k1, k2⟩ := ht
      rcases hL t with ⟨y, -⟩ | ⟨k', k1', k2', y⟩
      · exact absurd (by rw [← hgE k k1, k2]) (y k k1)
      · rw [z] at y; cases y) (τ e) hp.2.2.1 hb haQ) hw
  rw [sem_L key1 _ hp.2.2.1] at tm
  exact tm

