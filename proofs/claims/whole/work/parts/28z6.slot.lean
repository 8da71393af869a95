/-! the aggregates' slots (own rows) -/
def agC : Tr → Nat
  | .mulL c _ => c
  | _ => 0
def Ks (ρ : St) (τ : Nat → Tr) (s : Nat) : Nat := agC (τ (ga ρ 10 s).toNatClampNeg) / 8 % 8
def Ds (ρ : St) (τ : Nat → Tr) (s : Nat) : Bool := decide (agC (τ (ga ρ 10 s).toNatClampNeg) / 64 = 1 ∧ ¬ agC (τ (ga ρ 10 s).toNatClampNeg) / 8 % 8 = 0)
/-- what is known of slot s -/
def Slt (σ ρ : St) (τ : Nat → Tr) (n : Nat) (K : Nat → Nat) (D : Nat → Bool) (s : Nat) : Prop := ∃ e i j c, e < n ∧ i < n ∧ j < n ∧ ga ρ 10 s = nI e ∧ τ e = .mulL c (τ i) ∧ c % 8 = s ∧ τ j = τ i ∧ K s ≤ 5 ∧ ga ρ 3 e = nI (30 + K s) ∧ ga ρ 4 e = nI j ∧ ga σ 10 s = nI (K s) ∧ ga σ 11 s = nI i ∧ (ga σ 12 s = 0 ↔ D s = false) ∧ (¬ K s = 0 → (ga ρ 6 e = 0 ↔ D s = false)) ∧ ¬ tru (τ i) ∧ tab (τ i) = 0
theorem slots {σ ρ : St} {n m s : Nat} {τ : Nat → Tr} (hE : IvE σ ρ n m τ) (hs : s < m) : Slt σ ρ τ n (Ks ρ τ) (Ds ρ τ) s := by
  have n60 := hE.1
  obtain ⟨e, he, ha, c, a, hc, ht⟩ := hE.2.2.2.2.2.2.2 s hs
  obtain ⟨p1, p2, p3, -⟩ := hE.2.2.2.2.2.2.1 e he
  rw [ht] at p1 p2 p3
  obtain ⟨x1, x2, x3, x4, i, i1, i2, i3, i4, i5⟩ := p1
  obtain ⟨y1, y2, y3, j, j1, j2, j3⟩ := p2
  obtain ⟨t1, t2, t3, t4, t5⟩ := p3
  have ck : agC (τ (ga ρ 10 s).toNatClampNeg) = c := by rw [ha, nI_clamp (by omega), ht]; rfl
  have k1 : Ks ρ τ s = c / 8 % 8 := by unfold Ks; rw [ck]
  have d1 : Ds ρ τ s = decide (c / 64 = 1 ∧ ¬ c / 8 % 8 = 0) := by unfold Ds; rw [ck]
  rw [hc] at x3 x4 i4
  refine ⟨e, i, j, c, he, by omega, by omega, ha, by rw [i5]; exact ht, hc, by rw [i5, j3], by rw [k1]; exact t2, by rw [k1]; exact y1, j2, by rw [k1]; exact x3, i4, ?_, ?_, by rw [i5]; exact t3, by rw [i5]; exact t4⟩
  · rw [x4, d1]
    by_cases q : c / 64 = 1 ∧ c / 8 % 8 ≠ 0
    · rw [if_pos q]
      exact ⟨fun z => absurd z (by decide), fun z => absurd q (by simpa using z)⟩
    · rw [if_neg q]
      exact ⟨fun _ => by simpa using q, fun _ => rfl⟩
  · intro hk
    rw [k1] at hk
    rw [y2, d1, nI_z (by omega)]
    by_cases q : c / 64 = 1
    · exact ⟨fun z => by omega, fun z => absurd (show c / 64 = 1 ∧ ¬ c / 8 % 8 = 0 from ⟨q, hk⟩) (of_decide_eq_false z)⟩
    · exact ⟨fun _ => by simp [q], fun _ => by omega⟩
theorem Slt.same {σ ρ σ' ρ' : St} {τ : Nat → Tr} {n s : Nat} {K : Nat → Nat} {D : Nat → Bool} (h : Slt σ ρ τ n K D s) (hx : SX σ σ') (hm : SM ρ ρ') : Slt σ' ρ' τ n K D s := by
  unfold Slt
  rw [hx.2.1 10 (by decide), hx.2.1 11 (by decide), hx.2.1 12 (by decide), hm.2.1 10 (by decide), hm.2.1 3 (by decide), hm.2.1 4 (by decide), hm.2.1 6 (by decide)]
  exact h
/-- an aggregate in a tree stands somewhere by itself -/
theorem tab_sub {σ ρ : St} {n m s : Nat} {τ : Nat → Tr} (hE : IvE σ ρ n m τ) : ∀ (t : Tr), twf t → ∀ e, e < n → τ e = t → (tab t).testBit s = true → ∃ e' c a, e' < n ∧ τ e' = .mulL c a ∧ c % 8 = s ∧ ∀ b, (tcb a).testBit b = true → (tcb t).testBit b = true
  | .num _, _, e, he, ht, h => by simp [tab] at h
  | .var b, _, e, he, ht, h => by simp [tab] at h
  | .mulL c a, _, e, he, ht, h => ⟨e, c, a, he, ht, by simpa [tab, Nat.testBit_two_pow] using h, fun b z => z⟩
  | .mulR a k, w, e, he, ht, h => by
    obtain ⟨p1, -⟩ := hE.2.2.2.2.2.2.1 e he
    rw [ht] at p1
    obtain ⟨-, -, i, i1, -, -, i4⟩ := p1
    exact tab_sub hE a w.2 i (by omega) i4 h
  | .add (.mulL k a) b, w, e, he, ht, h => by
    obtain ⟨p1, -⟩ := hE.2.2.2.2.2.2.1 e he
    rw [ht] at p1
    obtain ⟨-, -, i, j, i1, j1, -, -, i4, j4⟩ := p1
    have h' : (tab a ||| tab b).testBit s = true := h
    rw [Nat.testBit_or, Bool.or_eq_true] at h'
    have o : ∀ q, (tcb (two k a b)).testBit q = ((tcb a).testBit q || (tcb b).testBit q) := fun q => by show (tcb a ||| tcb b).testBit q = _; rw [Nat.testBit_or]
    rcases h' with h' | h'
    · obtain ⟨e', c, a', z1, z2, z3, z4⟩ := tab_sub hE a w.2.2.2.1 i (by omega) i4 h'
      exact ⟨e', c, a', z1, z2, z3, fun q hq => by rw [o, z4 q hq, Bool.true_or]⟩
    · obtain ⟨e', c, a', z1, z2, z3, z4⟩ := tab_sub hE b w.2.2.2.2 j (by omega) j4 h'
      exact ⟨e', c, a', z1, z2, z3, fun q hq => by rw [o, z4 q hq, Bool.or_true]⟩
/-- the columns of an aggregate that is asked for are there -/
theorem slot_cols {σ ρ : St} {nt n m ns ng ni no s : Nat} {w h : Nat → Nat} {τ : Nat → Tr} (d : Dat σ ρ nt n m ns ng ni no w h τ) (co : ColsOk σ ρ w τ ns ng ni) (hu : (late σ τ ni).testBit s = true) : s < m ∧ ∀ e c t, e < n → τ e = .mulL c t → c % 8 = s → ∀ b, (tcb t).testBit b = true → Pc ρ w ns b := by
  have n60 := d.2.1.1
  have hE := d.2.1
  have src : ∃ j, j < n ∧ (tab (τ j)).testBit s = true ∧ ∀ b, (tcb (τ j)).testBit b = true → Pc ρ w ns b := by
    unfold late at hu
    rw [Nat.testBit_or, Bool.or_eq_true, orB_bit] at hu
    rcases hu with ⟨k, hk, z⟩ | z
    · obtain ⟨k1, k2, k3, k4⟩ := iE_at d hk
      have ck := co.2.2.2.2 k hk
      rw [k3, oo_j (by omega)] at z ck
      exact ⟨_, k1, z, ck⟩
    · rcases d.2.2.2.2.2.2.2.1 with ⟨c1, c2⟩ | ⟨j, j1, j2, j3, j4⟩
      · rw [c1, oo_no] at z
        simp [os] at z
      · have ck := co.2.2.1
        rw [j2, oo_j (by omega)] at z ck
        exact ⟨_, j1, z, ck⟩
  obtain ⟨j, j1, j2, j3⟩ := src
  obtain ⟨e', c', a', z1, z2, z3, z4⟩ := tab_sub hE (τ j) (hE.2.2.2.2.2.2.1 j j1).2.2.1 j j1 rfl j2
  have sm : s < m := by rw [← z3]; exact (hE.2.2.2.2.2.2.1 e' z1).2.2.2.2.1 c' a' z2
  refine ⟨sm, fun e c t he ht hc b hb => ?_⟩
  have q1 := (agAt hE sm he).mpr ⟨c, t, ht, hc⟩
  have q2 := (agAt hE sm z1).mpr ⟨c', a', z2, z3⟩
  have q3 : e = e' := nI_j (by omega) (by omega) (q1.symm.trans q2)
  subst q3
  rw [ht] at z2
  cases z2
  exact j3 b (z4 b hb)

