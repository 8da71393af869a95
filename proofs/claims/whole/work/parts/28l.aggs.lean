/-! M's check of aggregates; likes of groups; what is bound (own rows) -/
theorem wag {σ ρ : St} {n m j : Nat} {τ : Nat → Tr} (hE : IvE σ ρ n m τ) (hj : j < n) : ga ρ 8 j = 0 ↔ os tab (oo τ (nI j)) = 0 := by
  have n60 := hE.1
  rw [oo_j (by omega), (hE.2.2.2.2.2.2.1 j hj).2.2.2.2.2.2.2.2.2.1]
  show (if tab (τ j) = 0 then (0 : Int32) else 1) = 0 ↔ tab (τ j) = 0
  by_cases c : tab (τ j) = 0 <;> simp [c]
theorem m_a76 (N : Nat) {σ ρ : St} {nt n m ns ng ni no : Nat} {w h : Nat → Nat} {τ : Nat → Tr} (d : Dat σ ρ nt n m ns ng ni no w h τ) : ∀ (q i fu : Nat) (x : Int32), i + q = ng → q < fu → (x = 0 ∨ x = 1) → ∃ r, f_M_areAggregatesRight_76 N fu ρ x (nI i) = some (r, ρ) ∧ (r = 0 ∨ r = 1) ∧ (r = 1 ↔ x = 1 ∧ ∀ k, i ≤ k → k < ng → os tab (oo τ (ga σ 16 k)) = 0) := by
  obtain ⟨hT, hE, hQ⟩ := id d
  have g4 := hQ.2.1.1
  have n60 := hE.1
  intro q
  induction q with
  | zero =>
    intro i fu x hi hfu hx
    obtain ⟨fu, rfl⟩ : ∃ q, fu = q + 1 := ⟨fu - 1, by omega⟩
    have e0 : f_M_areAggregatesRight_76 N (fu + 1) ρ x (nI i) = f_M_areAggregatesRight_76_b N (f_M_areAggregatesRight_76 N fu) ρ x (nI i) := rfl
    rw [e0]
    unfold f_M_areAggregatesRight_76_b
    rw [hQ.2.1.2.2.1, if_pos (nI_le (by omega) (by omega)), ckt_b hx]
    exact ⟨x, rfl, hx, fun z => ⟨z, fun k h1 h2 => by omega⟩, fun z => z.1⟩
  | succ q ih =>
    intro i fu x hi hfu hx
    obtain ⟨fu, rfl⟩ : ∃ q, fu = q + 1 := ⟨fu - 1, by omega⟩
    have e0 : f_M_areAggregatesRight_76 N (fu + 1) ρ x (nI i) = f_M_areAggregatesRight_76_b N (f_M_areAggregatesRight_76 N fu) ρ x (nI i) := rfl
    rw [e0]
    unfold f_M_areAggregatesRight_76_b
    rw [hQ.2.1.2.2.1, if_neg (nI_ge (by omega) (by omega)), nI_1]
    by_cases c : x = 0
    · rw [if_pos c]
      obtain ⟨r, z1, z3, z4⟩ := ih (i + 1) fu 0 (by omega) (by omega) (Or.inl rfl)
      exact ⟨r, z1, z3, z4.trans ⟨fun z => absurd z.1 (by decide), fun z => absurd z.1 (by rw [c]; decide)⟩⟩
    · have x1 : x = 1 := by rcases hx with z | z; exact absurd z c; exact z
      obtain ⟨j, j1, j2, j3, j4⟩ := hQ.2.1.2.2.2 i (by omega)
      rw [if_neg c, ckb_nI (show i < 4 by omega) (by decide), nI_clamp (show i < 2 ^ 31 by omega), j3, ckb_nI (show j < 60 by omega) (by decide), nI_clamp (show j < 2 ^ 31 by omega)]
      have wg := wag hE j1
      rw [← j2] at wg
      by_cases c1 : ga ρ 8 j = 0
      · rw [if_pos c1]
        obtain ⟨r, z1, z3, z4⟩ := ih (i + 1) fu 1 (by omega) (by omega) (Or.inr rfl)
        refine ⟨r, z1, z3, z4.trans ⟨fun z => ⟨x1, fun k h1 h2 => ?_⟩, fun z => ⟨rfl, fun k h1 h2 => z.2 k (by omega) h2⟩⟩⟩
        by_cases e : k = i
        · subst e; exact wg.mp c1
        · exact z.2 k (by omega) h2
      · rw [if_neg c1]
        obtain ⟨r, z1, z3, z4⟩ := ih (i + 1) fu 0 (by omega) (by omega) (Or.inl rfl)
        exact ⟨r, z1, z3, z4.trans ⟨fun z => absurd z.1 (by decide), fun z => absurd (wg.mpr (z.2 i (Nat.le_refl _) (by omega))) c1⟩⟩
theorem m_a27 (N : Nat) (hN : 100 < N) {σ ρ : St} {nt n m ns ng ni no : Nat} {w h : Nat → Nat} {τ : Nat → Tr} (d : Dat σ ρ nt n m ns ng ni no w h τ) : ∀ (q i fu : Nat) (x : Int32), i + q = ns → q < fu → (x = 0 ∨ x = 1) → ∃ r, f_M_areAggregatesRight_27 N fu ρ x (nI i) = some (r, ρ) ∧ (r = 0 ∨ r = 1) ∧ (r = 1 ↔ x = 1 ∧ (∀ k, i ≤ k → k < ns → os tab (oo τ (ga σ 15 k)) = 0) ∧ ∀ k, k < ng → os tab (oo τ (ga σ 16 k)) = 0) := by
  obtain ⟨hT, hE, hQ⟩ := id d
  have g4 := hQ.2.1.1
  have ns3 := hQ.1.1
  have n60 := hE.1
  intro q
  induction q with
  | zero =>
    intro i fu x hi hfu hx
    obtain ⟨fu, rfl⟩ : ∃ q, fu = q + 1 := ⟨fu - 1, by omega⟩
    have e0 : f_M_areAggregatesRight_27 N (fu + 1) ρ x (nI i) = f_M_areAggregatesRight_27_b N (f_M_areAggregatesRight_27 N fu) ρ x (nI i) := rfl
    rw [e0]
    unfold f_M_areAggregatesRight_27_b
    rw [hQ.1.2.2.1, if_pos (nI_le (by omega) (by omega))]
    obtain ⟨r, z1, z3, z4⟩ := m_a76 N d ng 0 N x (by omega) (by omega) hx
    exact ⟨r, z1, z3, z4.trans ⟨fun z => ⟨z.1, fun k h1 h2 => by omega, fun k hk => z.2 k (by omega) hk⟩, fun z => ⟨z.1, fun k _ hk => z.2.2 k hk⟩⟩⟩
  | succ q ih =>
    intro i fu x hi hfu hx
    obtain ⟨fu, rfl⟩ : ∃ q, fu = q + 1 := ⟨fu - 1, by omega⟩
    have e0 : f_M_areAggregatesRight_27 N (fu + 1) ρ x (nI i) = f_M_areAggregatesRight_27_b N (f_M_areAggregatesRight_27 N fu) ρ x (nI i) := rfl
    rw [e0]
    unfold f_M_areAggregatesRight_27_b
    rw [hQ.1.2.2.1, if_neg (nI_ge (by omega) (by omega)), nI_1]
    by_cases c : x = 0
    · rw [if_pos c]
      obtain ⟨r, z1, z3, z4⟩ := ih (i + 1) fu 0 (by omega) (by omega) (Or.inl rfl)
      exact ⟨r, z1, z3, z4.trans ⟨fun z => absurd z.1 (by decide), fun z => absurd z.1 (by rw [c]; decide)⟩⟩
    · have x1 : x = 1 := by rcases hx with z | z; exact absurd z c; exact z
      rw [if_neg c, ckb_nI (show i < 3 by omega) (by decide), nI_clamp (show i < 2 ^ 31 by omega), ckb_nI (show i < 3 by omega) (by decide)]
      obtain ⟨t, hw, h1, h2, h3, h4, h5, h6, h7, h8⟩ := hQ.1.2.2.2 i (by omega)
      rw [h7]
      have step : os tab (oo τ (ga σ 15 i)) = 0 → ∃ r, f_M_areAggregatesRight_27 N fu ρ 1 (nI (i + 1)) = some (r, ρ) ∧ (r = 0 ∨ r = 1) ∧ (r = 1 ↔ x = 1 ∧ (∀ k, i ≤ k → k < ns → os tab (oo τ (ga σ 15 k)) = 0) ∧ ∀ k, k < ng → os tab (oo τ (ga σ 16 k)) = 0) := by
        intro ck
        obtain ⟨r, z1, z3, z4⟩ := ih (i + 1) fu 1 (by omega) (by omega) (Or.inr rfl)
        refine ⟨r, z1, z3, z4.trans ⟨fun z => ⟨x1, fun k h1 h2 => ?_, z.2.2⟩, fun z => ⟨rfl, fun k h1 h2 => z.2.1 k (by omega) h2, z.2.2⟩⟩⟩
        by_cases e : k = i
        · subst e; exact ck
        · exact z.2.1 k (by omega) h2
      rcases h8 with ⟨g1, g2, g3⟩ | ⟨g1, j, j1, j2, j3, j4⟩
      · rw [if_pos (show nI hw = 0 by rw [g1]; rfl)]
        exact step (by rw [g2]; rfl)
      · rw [if_neg (show ¬ nI hw = 0 from fun z => g1 ((nI_z (by omega)).mp z)), j3, ckb_nI (show j < 60 by omega) (by decide), nI_clamp (show j < 2 ^ 31 by omega)]
        have wg := wag hE j1
        rw [← j2] at wg
        by_cases c1 : ga ρ 8 j = 0
        · rw [if_pos c1]
          exact step (wg.mp c1)
        · rw [if_neg c1]
          obtain ⟨r, z1, z3, z4⟩ := ih (i + 1) fu 0 (by omega) (by omega) (Or.inl rfl)
          exact ⟨r, z1, z3, z4.trans ⟨fun z => absurd z.1 (by decide), fun z => absurd (wg.mpr (z.2.1 i (Nat.le_refl _) (by omega))) c1⟩⟩
theorem m_aggs (N : Nat) (hN : 100 < N) {σ ρ : St} {nt n m ns ng ni no : Nat} {w h : Nat → Nat} {τ : Nat → Tr} (d : Dat σ ρ nt n m ns ng ni no w h τ) : ∃ r, f_M_areAggregatesRight N ρ = some (r, ρ) ∧ (r = 0 ∨ r = 1) ∧ (r = 1 ↔ AggOk σ τ ns ng) := by
  obtain ⟨hT, hE, hQ⟩ := id d
  have ns3 := hQ.1.1
  have n60 := hE.1
  unfold f_M_areAggregatesRight AggOk
  rcases cnd_sign hE.1 hQ.2.2.2.2.1 with ⟨c1, c2, -⟩ | ⟨c1, -, j, j1, j2, j3, -⟩
  · rw [if_pos c1, c2]
    obtain ⟨r, z1, z3, z4⟩ := m_a27 N hN d ns 0 N 1 (by omega) (by omega) (Or.inr rfl)
    exact ⟨r, z1, z3, z4.trans ⟨fun z => ⟨fun k hk => z.2.1 k (by omega) hk, rfl, z.2.2⟩, fun z => ⟨rfl, fun k _ hk => z.1 k hk, z.2.2⟩⟩⟩
  · rw [if_neg c1, j2, ckb_nI (show j < 60 by omega) (by decide), nI_clamp (show j < 2 ^ 31 by omega)]
    have wg := wag hE j1
    rw [← j3] at wg
    by_cases c1 : ga ρ 8 j = 0
    · rw [if_pos c1]
      obtain ⟨r, z1, z3, z4⟩ := m_a27 N hN d ns 0 N 1 (by omega) (by omega) (Or.inr rfl)
      exact ⟨r, z1, z3, z4.trans ⟨fun z => ⟨fun k hk => z.2.1 k (by omega) hk, wg.mp c1, z.2.2⟩, fun z => ⟨rfl, fun k _ hk => z.1 k hk, z.2.2⟩⟩⟩
    · rw [if_neg c1]
      obtain ⟨r, z1, z3, z4⟩ := m_a27 N hN d ns 0 N 0 (by omega) (by omega) (Or.inl rfl)
      exact ⟨r, z1, z3, z4.trans ⟨fun z => absurd z.1 (by decide), fun z => absurd (wg.mpr z.2.1) c1⟩⟩
/-- the k-th group's expression -/
def gE (ρ : St) (k : Nat) : Nat := (ga ρ 14 k).toNatClampNeg
theorem gE_at {σ ρ : St} {nt n m ns ng ni no k : Nat} {w h : Nat → Nat} {τ : Nat → Tr} (d : Dat σ ρ nt n m ns ng ni no w h τ) (hk : k < ng) : gE ρ k < n ∧ ga ρ 14 k = nI (gE ρ k) ∧ ga σ 16 k = nI (gE ρ k) ∧ ¬ tru (τ (gE ρ k)) := by
  obtain ⟨j, j1, j2, j3, j4⟩ := d.2.2.2.1.2.2.2 k hk
  have n60 := d.2.1.1
  have : gE ρ k = j := by unfold gE; rw [j3, nI_clamp (by omega)]
  rw [this]
  exact ⟨j1, j3, j2, j4⟩
/-- which group a tree is like -/
theorem m_gl (N : Nat) (hN : 100 < N) {σ ρ : St} {nt n m ns ng ni no e : Nat} {w h : Nat → Nat} {τ : Nat → Tr} (d : Dat σ ρ nt n m ns ng ni no w h τ) (he : e < n) :
    ∃ r, f_M_groupLike N ρ (nI e) = some (r, ρ) ∧ ((r = -1 ∧ ∀ k, k < ng → tfg (τ (gE ρ k)) ≠ tfg (τ e)) ∨ ∃ k, k < ng ∧ r = nI k ∧ tfg (τ (gE ρ k)) = tfg (τ e) ∧ ∀ i, i < k → tfg (τ (gE ρ i)) ≠ tfg (τ e)) := by
  obtain ⟨hT, hE, hQ⟩ := id d
  have g4 := hQ.2.1.1
  have n60 := hE.1
  have em : ∀ a : Int32, a + Int32.ofInt (-1) = a - 1 := by intro a; rw [Int32.sub_eq_add_neg]; rfl
  have hl : ∀ i, i < n → ∃ l, Lst (fun j => tfg (τ j)) i l ∧ ga ρ 9 i = nI l := fun i hi => (hE.2.2.2.2.2.2.1 i hi).2.2.2.2.2.2.2.2.2.2.2
  have key : ∀ (i fu : Nat) (x : Int32), i ≤ ng → i < fu → ∃ r, f_M_groupLike_9 N fu ρ (nI e) x (nI i - 1) = some (r, ρ) ∧ ((r = x ∧ ∀ k, k < i → tfg (τ (gE ρ k)) ≠ tfg (τ e)) ∨ ∃ k, k < i ∧ r = nI k ∧ tfg (τ (gE ρ k)) = tfg (τ e) ∧ ∀ i, i < k → tfg (τ (gE ρ i)) ≠ tfg (τ e)) := by
    intro i
    induction i with
    | zero =>
      intro fu x hi hfu
      obtain ⟨fu, rfl⟩ : ∃ q, fu = q + 1 := ⟨fu - 1, by omega⟩
      have e0 : f_M_groupLike_9 N (fu + 1) ρ (nI e) x (nI 0 - 1) = f_M_groupLike_9_b N (f_M_groupLike_9 N fu) ρ (nI e) x (nI 0 - 1) := rfl
      rw [e0]
      unfold f_M_groupLike_9_b
      rw [if_pos (show nI 0 - 1 < 0 by decide)]
      exact ⟨x, rfl, Or.inl ⟨rfl, fun k hk => by omega⟩⟩
    | succ i ih =>
      intro fu x hi hfu
      obtain ⟨fu, rfl⟩ : ∃ q, fu = q + 1 := ⟨fu - 1, by omega⟩
      have e0 : f_M_groupLike_9 N (fu + 1) ρ (nI e) x (nI (i + 1) - 1) = f_M_groupLike_9_b N (f_M_groupLike_9 N fu) ρ (nI e) x (nI (i + 1) - 1) := rfl
      rw [e0]
      unfold f_M_groupLike_9_b
      obtain ⟨k1, k2, k3, -⟩ := gE_at d (show i < ng by omega)
      have lk := ml_iff (i := gE ρ i) (j := e) n60 hl k1 he
      rw [nI_clamp (show gE ρ i < 2 ^ 31 by omega), nI_clamp (show e < 2 ^ 31 by omega)] at lk
      rw [nI_pred, if_neg (show ¬ nI i < 0 from nI_pos (by omega)), ckb_nI (show i < 4 by omega) (by decide), nI_clamp (show i < 2 ^ 31 by omega), k2, ckb_nI (show gE ρ i < 60 by omega) (by decide), nI_clamp (show gE ρ i < 2 ^ 31 by omega), ckb_nI (show e < 60 by omega) (by decide), nI_clamp (show e < 2 ^ 31 by omega), em]
      by_cases c : ga ρ 9 (gE ρ i) = ga ρ 9 e
      · rw [if_pos c]
        obtain ⟨r, z1, z2⟩ := ih fu (nI i) (by omega) (by omega)
        refine ⟨r, z1, Or.inr ?_⟩
        rcases z2 with ⟨y1, y2⟩ | ⟨k, y1, y2, y3, y4⟩
        · exact ⟨i, by omega, y1, lk.mp c, y2⟩
        · exact ⟨k, by omega, y2, y3, y4⟩
      · rw [if_neg c]
        obtain ⟨r, z1, z2⟩ := ih fu x (by omega) (by omega)
        refine ⟨r, z1, ?_⟩
        rcases z2 with ⟨y1, y2⟩ | ⟨k, y1, y2, y3, y4⟩
        · refine Or.inl ⟨y1, fun k hk => ?_⟩
          by_cases ek : k = i
          · subst ek; exact fun z => c (lk.mpr z)
          · exact y2 k (by omega)
        · exact Or.inr ⟨k, by omega, y2, y3, y4⟩
  unfold f_M_groupLike
  rw [hQ.2.1.2.2.1]
  exact key ng N (-1) (Nat.le_refl _) (by omega)
/-- columns stand in groups or in aggregates alone -/
def bnd (G : Tr → Prop) : Tr → Prop
  | .var b => G (.var b)
  | .mulR a k => G (.mulR a k) ∨ bnd G a
  | .add (.mulL k a) b => G (.add (.mulL k a) b) ∨ (bnd G a ∧ bnd G b)
  | _ => True
/-- a tree is like a group -/
def isG (ρ : St) (τ : Nat → Tr) (ng : Nat) (t : Tr) : Prop := ∃ k, k < ng ∧ tfg (τ (gE ρ k)) = tfg t
theorem bnd_G {G : Tr → Prop} {t : Tr} (w : twf t) (h : G t) : bnd G t := by
  rcases tcases w with rfl | ⟨q, hq, rfl⟩ | ⟨b, hb, rfl⟩ | ⟨kk, a, b, hkk, rfl⟩ | ⟨kk, a, hkk, rfl⟩ | ⟨c, a, hc, hcq, rfl⟩
  · trivial
  · trivial
  · exact h
  · exact Or.inl h
  · exact Or.inl h
  · trivial

