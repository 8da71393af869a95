/-! the checks of a run, both sides together (own rows) -/
theorem x_first (N : Nat) (hN : 100 < N) {σ ρ : St} {nt n m ns ng ni no : Nat} {w h : Nat → Nat} {τ : Nat → Tr} (d : Dat σ ρ nt n m ns ng ni no w h τ) :
    ∃ cc f, f_C_firstFault N σ = some (cc, sa σ 22 f) ∧ ((cc = -1 ∧ (ns = 0 ∨ ni = 0)) ∨ (0 < ns ∧ 0 < ni ∧ ((cc = -11 ∧ ¬ ColsOk σ ρ w τ ns ng ni) ∨ (ColsOk σ ρ w τ ns ng ni ∧ ((cc = -12 ∧ ¬ AggOk σ τ ns ng) ∨ (AggOk σ τ ns ng ∧ ((cc = -13 ∧ Grp σ τ ng ni ∧ ¬ BndOk ρ τ (isG' ρ τ ng) ni) ∨ (cc = 0 ∧ ¬ (Grp σ τ ng ni ∧ ¬ BndOk ρ τ (isG' ρ τ ng) ni))))))))) := by
  obtain ⟨hT, hE, hQ⟩ := id d
  have ns3 := hQ.1.1
  have i6 := hQ.2.2.1.1
  unfold f_C_firstFault
  rw [hQ.1.2.1]
  by_cases c1 : ns = 0
  · rw [if_pos (show nI ns = 0 by rw [c1]; rfl)]
    exact ⟨-1, ga σ 22, by rw [sa_self], Or.inl ⟨rfl, Or.inl c1⟩⟩
  · rw [if_neg (show ¬ nI ns = 0 from fun z => c1 ((nI_z (by omega)).mp z)), hQ.2.2.1.2.1]
    by_cases c2 : ni = 0
    · rw [if_pos (show nI ni = 0 by rw [c2]; rfl)]
      exact ⟨-1, ga σ 22, by rw [sa_self], Or.inl ⟨rfl, Or.inr c2⟩⟩
    · rw [if_neg (show ¬ nI ni = 0 from fun z => c2 ((nI_z (by omega)).mp z))]
      obtain ⟨r1, a1, a2, a3⟩ := x_unknown N hN d (by omega)
      rw [a1, bd_eq]
      by_cases c3 : r1 = 0
      · rw [if_pos c3]
        obtain ⟨r2, b1, b2, b3⟩ := x_early N hN d
        rw [b1, bd_eq]
        by_cases c4 : r2 = 0
        · rw [if_pos c4]
          obtain ⟨r3, e1, e2, e3⟩ := x_grouped N hN d
          rw [e1, bd_eq]
          by_cases c5 : r3 = 0
          · rw [if_pos c5]
            exact ⟨0, ga σ 22, by rw [sa_self], Or.inr ⟨by omega, by omega, Or.inr ⟨a3.mp c3, Or.inr ⟨b3.mp c4, Or.inr ⟨rfl, fun z => by have := e3.mpr z.1; rw [c5] at this; exact absurd this (by decide)⟩⟩⟩⟩⟩
          · have r31 : r3 = 1 := by rcases e2 with z | z; exact absurd z c5; exact z
            rw [if_neg c5]
            obtain ⟨r4, f, f1, f2, f3⟩ := x_loose N hN d
            rw [f1, bd_eq]
            by_cases c6 : r4 = 0
            · rw [if_pos c6]
              exact ⟨0, f, rfl, Or.inr ⟨by omega, by omega, Or.inr ⟨a3.mp c3, Or.inr ⟨b3.mp c4, Or.inr ⟨rfl, fun z => z.2 (f3.mp c6)⟩⟩⟩⟩⟩
            · rw [if_neg c6]
              exact ⟨-13, f, rfl, Or.inr ⟨by omega, by omega, Or.inr ⟨a3.mp c3, Or.inr ⟨b3.mp c4, Or.inl ⟨rfl, e3.mp r31, fun z => c6 (f3.mpr z)⟩⟩⟩⟩⟩
        · rw [if_neg c4]
          exact ⟨-12, ga σ 22, by rw [sa_self], Or.inr ⟨by omega, by omega, Or.inr ⟨a3.mp c3, Or.inl ⟨rfl, fun z => c4 (b3.mpr z)⟩⟩⟩⟩
      · rw [if_neg c3]
        exact ⟨-11, ga σ 22, by rw [sa_self], Or.inr ⟨by omega, by omega, Or.inl ⟨rfl, fun z => c3 (a3.mpr z)⟩⟩⟩
/-- what the checks of M touch -/
def MG (ρ ρ' : St) : Prop := (∀ r, r ≠ 19 → r ≠ 14 → r ≠ 15 → gi ρ' r = gi ρ r) ∧ (∀ r, r ≠ 24 → r ≠ 25 → ga ρ' r = ga ρ r) ∧ (∀ r, gb ρ' r = gb ρ r)
theorem MG.rfl {ρ : St} : MG ρ ρ := ⟨fun _ _ _ _ => Eq.refl _, fun _ _ _ => Eq.refl _, fun _ => Eq.refl _⟩
theorem MG.trans {a b c : St} (h : MG a b) (k : MG b c) : MG a c := ⟨fun r x y z => (k.1 r x y z).trans (h.1 r x y z), fun r x y => (k.2.1 r x y).trans (h.2.1 r x y), fun r => (k.2.2 r).trans (h.2.2 r)⟩
theorem MO.mg {ρ ρ' : St} (h : MO ρ ρ') : MG ρ ρ' := ⟨fun r x _ _ => h.1 r x, h.2.1, h.2.2⟩
theorem mg_wrong {ρ : St} {x : Int32} : MG ρ (si ρ 14 x) := ⟨fun r _ h _ => by rw [gi_si, if_neg h], fun _ _ _ => rfl, fun _ => rfl⟩
theorem mg_grouped {ρ : St} {x : Int32} : MG ρ (si ρ 15 x) := ⟨fun r _ _ h => by rw [gi_si, if_neg h], fun _ _ _ => rfl, fun _ => rfl⟩
theorem MG.sm {ρ ρ' : St} (h : MG ρ ρ') : SM ρ ρ' :=
  ⟨fun r q => h.1 r (fun z => absurd q (by rw [z]; decide)) (fun z => absurd q (by rw [z]; decide)) (fun z => absurd q (by rw [z]; decide)), fun r q => h.2.1 r (fun z => absurd q (by rw [z]; decide)) (fun z => absurd q (by rw [z]; decide)), fun r q => h.2.2 r⟩
/-- groups, as M sees it -/
def GrpM (σ : St) (τ : Nat → Tr) (ng ni : Nat) : Prop := 0 < ng ∨ ¬ gi σ 5 = -1 ∨ ∃ k, k < ni ∧ ¬ os tab (oo τ (ga σ 17 k)) = 0
theorem grp_iff {σ : St} {τ : Nat → Tr} {ng ni : Nat} : Grp σ τ ng ni ↔ GrpM σ τ ng ni := by
  unfold Grp GrpM late
  constructor
  · rintro (z | z | z)
    · exact Or.inl z
    · exact Or.inr (Or.inl z)
    · by_cases c : gi σ 5 = -1
      · right; right
        rw [c, show os tab (oo τ (-1)) = 0 from rfl, Nat.or_zero, orB_zero] at z
        exact Classical.not_not.mp (fun y => z (fun i hi => Classical.not_not.mp (fun u => y ⟨i, hi, u⟩)))
      · exact Or.inr (Or.inl c)
  · rintro (z | z | ⟨k, hk, z⟩)
    · exact Or.inl z
    · exact Or.inr (Or.inl z)
    · refine Or.inr (Or.inr (fun y => z ?_))
      rw [Nat.or_eq_zero_iff, orB_zero] at y
      exact y.1 k hk
theorem dat_mg {σ ρ ρ' : St} {nt n m ns ng ni no : Nat} {w h : Nat → Nat} {τ : Nat → Tr} (d : Dat σ ρ nt n m ns ng ni no w h τ) (mg : MG ρ ρ') : Dat σ ρ' nt n m ns ng ni no w h τ := d.same SX.rfl mg.sm
theorem bndok_mg {ρ ρ' : St} {τ : Nat → Tr} {ng ni : Nat} (mg : MG ρ ρ') : BndOk ρ' τ (isG ρ' τ ng) ni ↔ BndOk ρ τ (isG ρ τ ng) ni := by
  have e1 : gi ρ' 5 = gi ρ 5 := mg.1 _ (by decide) (by decide) (by decide)
  have e2 : ga ρ' 15 = ga ρ 15 := mg.2.1 _ (by decide) (by decide)
  have e3 : ga ρ' 14 = ga ρ 14 := mg.2.1 _ (by decide) (by decide)
  have e4 : isG ρ' τ ng = isG ρ τ ng := by
    funext t
    unfold isG gE
    rw [e3]
  rw [e4]
  unfold BndOk iE
  rw [e1, e2]
/-- behind the loop over the items: wrong already, or bound or not -/
theorem m_r112 (N : Nat) (hN : 100 < N) {σ ρ0 : St} {nt n m ns ng ni no : Nat} {w h : Nat → Nat} {τ : Nat → Tr} (d : Dat σ ρ0 nt n m ns ng ni no w h τ) (t0 : Int32) : ∀ (q i fu : Nat) (ρ : St), MG ρ0 ρ → gi ρ 14 = t0 → (gi ρ 15 = 0 ∨ gi ρ 15 = 1) → (gi ρ 15 = 1 ↔ (0 < ng ∨ ¬ gi σ 5 = -1 ∨ ∃ k, k < i ∧ ¬ os tab (oo τ (ga σ 17 k)) = 0)) → i + q = ni → q < fu →
    (¬ t0 = 0 → ∃ ρ', f_M_run_112 N fu ρ (nI i) = some (t0, ρ') ∧ MG ρ0 ρ') ∧
    (t0 = 0 → (GrpM σ τ ng ni ∧ ¬ BndOk ρ0 τ (isG ρ0 τ ng) ni → ∃ ρ', f_M_run_112 N fu ρ (nI i) = some (-13, ρ') ∧ MG ρ0 ρ') ∧
      (¬ (GrpM σ τ ng ni ∧ ¬ BndOk ρ0 τ (isG ρ0 τ ng) ni) → ∃ ρ', f_M_run_112 N fu ρ (nI i) = f_M_run_204 N N ρ' 0 ∧ MG ρ0 ρ' ∧ gi ρ' 14 = 0 ∧ (gi ρ' 15 = 0 ∨ gi ρ' 15 = 1) ∧ (gi ρ' 15 = 1 ↔ GrpM σ τ ng ni))) := by
  intro q
  induction q with
  | zero =>
    intro i fu ρ mg hw hg gg hi hfu
    obtain ⟨fu, rfl⟩ : ∃ q, fu = q + 1 := ⟨fu - 1, by omega⟩
    have e0 : f_M_run_112 N (fu + 1) ρ (nI i) = f_M_run_112_b N (f_M_run_112 N fu) ρ (nI i) := rfl
    have dd := dat_mg d mg
    have i6 := dd.2.2.2.2.1.1
    have hi' : i = ni := by omega
    subst hi'
    have e187 : ∀ (ρ : St) (t : Int32), f_M_run_187 N ρ t = if t = 0 then f_M_run_204 N N (si ρ 14 t) 0 else some (t, si ρ 14 t) := by
      intro ρ t
      unfold f_M_run_187
      rw [nm_eq]
      rfl
    rw [e0]
    unfold f_M_run_112_b f_M_run_183
    rw [dd.2.2.2.2.1.2.2.1, if_pos (nI_le (Nat.le_refl _) (by omega)), hw]
    simp only [e187]
    refine ⟨fun c => ?_, fun c => ?_⟩
    · rw [if_neg c, if_neg c]
      exact ⟨_, rfl, mg.trans mg_wrong⟩
    · subst c
      rw [if_pos rfl]
      refine ⟨fun ⟨z1, z2⟩ => ?_, fun z => ?_⟩
      · have g1 : gi ρ 15 = 1 := gg.mpr z1
        rw [if_neg (show ¬ gi ρ 15 = 0 by rw [g1]; decide)]
        obtain ⟨r, ρ', y1, y2, y3, y4⟩ := m_allb N hN dd
        rw [bndok_mg mg] at y4
        have r0 : r = 0 := by rcases y3 with y | y; exact y; exact absurd (y4.mp y) z2
        rw [y1, bd_eq, if_pos r0, if_neg (by decide)]
        exact ⟨_, rfl, (mg.trans y2.mg).trans mg_wrong⟩
      · by_cases c : gi ρ 15 = 0
        · rw [if_pos c, if_pos rfl]
          exact ⟨_, rfl, mg.trans mg_wrong, rfl, hg, gg⟩
        · rw [if_neg c]
          have g1 : gi ρ 15 = 1 := by rcases hg with y | y; exact absurd y c; exact y
          obtain ⟨r, ρ', y1, y2, y3, y4⟩ := m_allb N hN dd
          rw [bndok_mg mg] at y4
          have r1 : r = 1 := by
            rcases y3 with y | y
            · exfalso
              refine z ⟨gg.mp g1, fun u => ?_⟩
              have := y4.mpr u
              rw [y] at this
              exact absurd this (by decide)
            · exact y
          have gr : gi ρ' 15 = gi ρ 15 := y2.1 _ (by decide)
          have wr : gi ρ' 14 = 0 := (y2.1 _ (by decide)).trans hw
          rw [y1, bd_eq, if_neg (show ¬ r = 0 by rw [r1]; decide), wr, if_pos rfl]
          refine ⟨_, rfl, (mg.trans y2.mg).trans mg_wrong, rfl, ?_, ?_⟩
          · show gi ρ' 15 = 0 ∨ gi ρ' 15 = 1
            rw [gr]; exact hg
          · show gi ρ' 15 = 1 ↔ _
            rw [gr]; exact gg
  | succ q ih =>
    intro i fu ρ mg hw hg gg hi hfu
    obtain ⟨fu, rfl⟩ : ∃ q, fu = q + 1 := ⟨fu - 1, by omega⟩
    have e0 : f_M_run_112 N (fu + 1) ρ (nI i) = f_M_run_112_b N (f_M_run_112 N fu) ρ (nI i) := rfl
    have dd := dat_mg d mg
    have i6 := dd.2.2.2.2.1.1
    have n60 := dd.2.1.1
    obtain ⟨k1, k2, k3, -⟩ := iE_at dd (show i < ni by omega)
    have st : ∀ v : Int32, (v = 0 ∨ v = 1) → (v = 1 ↔ (0 < ng ∨ ¬ gi σ 5 = -1 ∨ ∃ k, k < i + 1 ∧ ¬ os tab (oo τ (ga σ 17 k)) = 0)) → f_M_run_112 N (fu + 1) ρ (nI i) = f_M_run_112 N fu (si ρ 15 v) (nI (i + 1)) → (¬ t0 = 0 → ∃ ρ', f_M_run_112 N (fu + 1) ρ (nI i) = some (t0, ρ') ∧ MG ρ0 ρ') ∧
    (t0 = 0 → (GrpM σ τ ng ni ∧ ¬ BndOk ρ0 τ (isG ρ0 τ ng) ni → ∃ ρ', f_M_run_112 N (fu + 1) ρ (nI i) = some (-13, ρ') ∧ MG ρ0 ρ') ∧
      (¬ (GrpM σ τ ng ni ∧ ¬ BndOk ρ0 τ (isG ρ0 τ ng) ni) → ∃ ρ', f_M_run_112 N (fu + 1) ρ (nI i) = f_M_run_204 N N ρ' 0 ∧ MG ρ0 ρ' ∧ gi ρ' 14 = 0 ∧ (gi ρ' 15 = 0 ∨ gi ρ' 15 = 1) ∧ (gi ρ' 15 = 1 ↔ GrpM σ τ ng ni))) := by
      intro v hv hb e
      rw [e]
      exact ih (i + 1) fu (si ρ 15 v) (mg.trans mg_grouped) hw hv hb (by omega) (by omega)
    have wg := wag dd.2.1 k1
    rw [← k3] at wg
    by_cases c : gi ρ 15 = 0
    · have ng1 : ¬ gi ρ 15 = 1 := by rw [c]; decide
      by_cases c2 : ga ρ 8 (iE ρ i) = 0
      · refine st 0 (Or.inl rfl) ⟨fun z => absurd z (by decide), fun z => ?_⟩ ?_
        · exfalso
          refine ng1 (gg.mpr ?_)
          rcases z with z | z | ⟨k, hk, z⟩
          · exact Or.inl z
          · exact Or.inr (Or.inl z)
          · by_cases ek : k = i
            · subst ek; exact absurd (wg.mp c2) z
            · exact Or.inr (Or.inr ⟨k, by omega, z⟩)
        · rw [e0]
          unfold f_M_run_112_b
          rw [dd.2.2.2.2.1.2.2.1, if_neg (nI_ge (by omega) (by omega)), if_pos c, ckb_nI (show i < 6 by omega) (by decide), nI_clamp (show i < 2 ^ 31 by omega), k2, ckb_nI (show iE ρ i < 60 by omega) (by decide), nI_clamp (show iE ρ i < 2 ^ 31 by omega), if_pos c2, nm_eq, nI_1]
      · refine st 1 (Or.inr rfl) ⟨fun _ => Or.inr (Or.inr ⟨i, by omega, fun z => c2 (wg.mpr z)⟩), fun _ => rfl⟩ ?_
        rw [e0]
        unfold f_M_run_112_b
        rw [dd.2.2.2.2.1.2.2.1, if_neg (nI_ge (by omega) (by omega)), if_pos c, ckb_nI (show i < 6 by omega) (by decide), nI_clamp (show i < 2 ^ 31 by omega), k2, ckb_nI (show iE ρ i < 60 by omega) (by decide), nI_clamp (show iE ρ i < 2 ^ 31 by omega), if_neg c2, nm_eq, nI_1]
    · have g1 : gi ρ 15 = 1 := by rcases hg with y | y; exact absurd y c; exact y
      refine st 1 (Or.inr rfl) ⟨fun _ => ?_, fun _ => rfl⟩ ?_
      · rcases gg.mp g1 with z | z | ⟨k, hk, z⟩
        · exact Or.inl z
        · exact Or.inr (Or.inl z)
        · exact Or.inr (Or.inr ⟨k, by omega, z⟩)
      · rw [e0]
        unfold f_M_run_112_b
        rw [dd.2.2.2.2.1.2.2.1, if_neg (nI_ge (by omega) (by omega)), if_neg c, nm_eq, nI_1]
theorem m_r84 (N : Nat) (hN : 100 < N) {σ ρ : St} {nt n m ns ng ni no : Nat} {w h : Nat → Nat} {τ : Nat → Tr} (d : Dat σ ρ nt n m ns ng ni no w h τ) (t0 : Int32) :
    (¬ t0 = 0 → ∃ ρ', f_M_run_84 N ρ t0 = some (t0, ρ') ∧ MG ρ ρ') ∧
    (t0 = 0 → (GrpM σ τ ng ni ∧ ¬ BndOk ρ τ (isG ρ τ ng) ni → ∃ ρ', f_M_run_84 N ρ t0 = some (-13, ρ') ∧ MG ρ ρ') ∧
      (¬ (GrpM σ τ ng ni ∧ ¬ BndOk ρ τ (isG ρ τ ng) ni) → ∃ ρ', f_M_run_84 N ρ t0 = f_M_run_204 N N ρ' 0 ∧ MG ρ ρ' ∧ gi ρ' 14 = 0 ∧ (gi ρ' 15 = 0 ∨ gi ρ' 15 = 1) ∧ (gi ρ' 15 = 1 ↔ GrpM σ τ ng ni))) := by
  obtain ⟨hT, hE, hQ⟩ := id d
  have i6 := hQ.2.2.1.1
  have g4 := hQ.2.1.1
  have sel : ∃ v : Int32, (v = 0 ∨ v = 1) ∧ (v = 1 ↔ (0 < ng ∨ ¬ gi σ 5 = -1 ∨ ∃ k, k < 0 ∧ ¬ os tab (oo τ (ga σ 17 k)) = 0)) ∧ f_M_run_84 N ρ t0 = f_M_run_112 N N (si (si ρ 14 t0) 15 v) (nI 0) := by
    unfold f_M_run_84
    rw [nm_eq, show gi (si ρ 14 t0) 6 = nI ng from hQ.2.1.2.2.1, show gi (si ρ 14 t0) 5 = gi ρ 5 from rfl]
    by_cases c : 0 < ng
    · rw [if_pos (show (0 : Int32) < nI ng from nI_lt (a := 0) c (by omega)), nm_eq]
      exact ⟨1, Or.inr rfl, ⟨fun _ => Or.inl c, fun _ => rfl⟩, rfl⟩
    · rw [if_neg (show ¬ (0 : Int32) < nI ng from nI_nlt (a := 0) (by omega) (by decide))]
      rcases cnd_sign hE.1 hQ.2.2.2.2.2.1 with ⟨c1, -, c2⟩ | ⟨c1, c2, -⟩
      · rw [if_pos c1, nm_eq]
        exact ⟨0, Or.inl rfl, ⟨fun z => absurd z (by decide), fun z => by rcases z with z | z | ⟨k, hk, -⟩; exact absurd z c; exact absurd c2 z; omega⟩, rfl⟩
      · rw [if_neg c1, nm_eq]
        exact ⟨1, Or.inr rfl, ⟨fun _ => Or.inr (Or.inl c2), fun _ => rfl⟩, rfl⟩
  obtain ⟨v, v1, v2, v3⟩ := sel
  rw [v3]
  exact m_r112 N hN d t0 ni 0 N (si (si ρ 14 t0) 15 v) (mg_wrong.trans mg_grouped) rfl v1 v2 (by omega) (by omega)

