/-! M's likes are those of trees but for slots (own rows) -/
theorem ml_iff {ρ : St} {τ : Nat → Tr} {n i j : Nat} (h60 : n ≤ 60) (hl : ∀ i, i < n → ∃ l, Lst (fun j => tfg (τ j)) i l ∧ ga ρ 9 i = nI l) (hi : i < n) (hj : j < n) : ga ρ 9 (nI i).toNatClampNeg = ga ρ 9 (nI j).toNatClampNeg ↔ tfg (τ i) = tfg (τ j) := by
  rw [nI_clamp (by omega), nI_clamp (by omega)]
  obtain ⟨l, a1, a2⟩ := hl i hi
  obtain ⟨l', b1, b2⟩ := hl j hj
  have := a1.1
  have := b1.1
  rw [a2, b2, nI_eq (by omega) (by omega)]
  exact (lst_iff a1 b1).symm
theorem qm_iff {ρ : St} {τ : Nat → Tr} {n i : Nat} {t : Tr} (h60 : n ≤ 60) (hx : ∀ i, i ≤ n → ME ρ (up τ n t) i (up τ n t i)) (hw : ∀ i, i ≤ n → twf (up τ n t i)) (hl : ∀ i, i < n → ∃ l, Lst (fun j => tfg (τ j)) i l ∧ ga ρ 9 i = nI l)
    (hi : i < n) : Qm ρ i n ↔ tfg (τ i) = tfg t := by
  have x1 := hx i (by omega)
  have x2 := hx n (Nat.le_refl _)
  have w1 := hw i (by omega)
  have w2 := hw n (Nat.le_refl _)
  rw [up_lt hi] at x1 w1
  rw [up_n] at x2 w2
  have k1 := kdm_me w1 x1
  have k2 := kdm_me w2 x2
  have m1 := kdm_36 w1
  have m2 := kdm_36 w2
  by_cases hk : kdm (τ i) = kdm t
  rotate_left
  · constructor
    · intro q
      have := q.1
      rw [k1, k2, nI_eq (by omega) (by omega)] at this
      exact absurd this hk
    · intro q
      have := congrArg kdf q
      rw [kdf_tfg w1, kdf_tfg w2] at this
      exact absurd this hk
  generalize τ i = s at *
  have L : ∀ {i' j' : Nat}, i' < n → j' < n → (ga ρ 9 (nI i').toNatClampNeg = ga ρ 9 (nI j').toNatClampNeg ↔ tfg (τ i') = tfg (τ j')) := fun a b => ml_iff h60 hl a b
  have n20 : ∀ k : Nat, k < 36 → k ≠ 20 → ¬ nI k = (20 : Int32) := fun k h1 h2 q => h2 ((nI_eq (b := 20) (by omega) (by decide)).mp q)
  have n21 : ∀ k : Nat, k < 36 → k ≠ 21 → ¬ nI k = (21 : Int32) := fun k h1 h2 q => h2 ((nI_eq (b := 21) (by omega) (by decide)).mp q)
  unfold Qm
  rcases tcases w1 with rfl | ⟨m, hm, rfl⟩ | ⟨b, hb, rfl⟩ | ⟨k, a, b, hk1, rfl⟩ | ⟨k, a, hk1, rfl⟩ | ⟨c, a, hc, hq, rfl⟩ <;>
  rcases tcases w2 with rfl | ⟨m', hm', rfl⟩ | ⟨b', hb', rfl⟩ | ⟨k', a', b', hk1', rfl⟩ | ⟨k', a', hk1', rfl⟩ | ⟨c', a', hc', hq', rfl⟩ <;>
  first
  | (exfalso; simp only [kdm] at hk; omega)
  | skip
  · rw [x1.1, x2.1, x1.2, x2.2]
    simp
  · rw [x1.1, x2.1, x1.2, x2.2.1]
    simp [tfg]
  · rw [x1.1, x2.1, x1.2.1, x2.2]
    simp [tfg]
  · rw [x1.1, x2.1, x1.2.1, x2.2.1]
    simp only [if_true, true_and, tfg, forall_const]
    constructor
    · intro q
      rw [← x1.2.2, ← x2.2.2, q]
    · intro q
      injection q with q
      exact cn_inj (by rw [x1.2.2, x2.2.2]; omega)
  · rw [x1.1, x2.1, x1.2.1, x2.2.1, x1.2.2.1, x2.2.2.1, x1.2.2.2, x2.2.2.2]
    simp (decide := true) only [if_true, if_false, true_and, tfg]
    rw [nI_eq (by omega) (by omega), nI_eq (by omega) (by omega)]
    constructor
    · intro q
      congr 1
      show b = b'
      omega
    · intro q
      injection q with q
      have q : b = b' := q
      subst q
      exact ⟨rfl, rfl⟩
  · obtain ⟨a1, a2, u, v, a3, a4, a5, a6, a7, a8⟩ := x1
    obtain ⟨b1, b2, u', v', b3, b4, b5, b6, b7, b8⟩ := x2
    rw [up_lt (by omega)] at a7 a8 b7 b8
    have e : k = k' := hk
    subst e
    rw [a1, b1, a2, b2, a5, b5, a6, b6, if_neg (n20 k (by omega) (by omega)), if_neg (n21 k (by omega) (by omega)), L (by omega) (by omega), L (by omega) (by omega), a7, a8, b7, b8]
    simp only [true_and, tfg]
    constructor
    · intro ⟨q1, q2⟩
      rw [q1, q2 (nI_le (a := k) (b := 10) (by omega) (by decide))]
    · intro q
      injection q with q1 q2
      injection q1 with q3 q4
      exact ⟨q4, fun _ => q2⟩
  · obtain ⟨a1, a2, u, a3, a5, a7⟩ := x1
    obtain ⟨b1, b2, u', b3, b5, b7⟩ := x2
    rw [up_lt (by omega)] at a7 b7
    have e : k = k' := hk
    subst e
    rw [a1, b1, a2, b2, a5, b5, if_neg (n20 k (by omega) (by omega)), if_neg (n21 k (by omega) (by omega)), L (by omega) (by omega), a7, b7]
    simp only [true_and, tfg]
    constructor
    · intro ⟨q1, q2⟩
      rw [q1]
    · intro q
      injection q with q1 q2
      exact ⟨q1, fun z => absurd z (nI_ge (a := 10) (b := k) (by omega) (by omega))⟩
  · obtain ⟨a1, a2, a9, u, a3, a5, a7⟩ := x1
    obtain ⟨b1, b2, b9, u', b3, b5, b7⟩ := x2
    rw [up_lt (by omega)] at a7 b7
    rw [a1, b1, a2, b2, a5, b5, if_neg (n20 _ (by omega) (by omega)), if_neg (n21 _ (by omega) (by omega)), L (by omega) (by omega), a7, b7, nI_eq (by omega) (by omega), nI_eq (by omega) (by omega)]
    simp only [tfg]
    constructor
    · intro ⟨q0, q00, q1, q2⟩
      rw [q1, show c / 8 = c' / 8 by omega]
    · intro q
      injection q with q1 q2
      exact ⟨by omega, by omega, q2, fun z => absurd z (nI_ge (a := 10) (b := 30 + c / 8 % 8) (by omega) (by omega))⟩
theorem m_lst {ρ : St} {τ : Nat → Tr} {n l : Nat} {t : Tr} (hq : ∀ i, i < n → (Qm ρ i n ↔ tfg (τ i) = tfg t)) (h1 : l ≤ n) (h2 : ∀ i, i < l → ¬ Qm ρ i n) (h3 : l < n → Qm ρ l n) : Lst (fun j => tfg (up τ n t j)) n l := by
  refine ⟨h1, ?_, fun j hj => ?_⟩
  · show tfg (up τ n t l) = tfg (up τ n t n)
    by_cases c : l = n
    · rw [c]
    · rw [up_lt (by omega), up_n]
      exact (hq l (by omega)).mp (h3 (by omega))
  · show tfg (up τ n t j) ≠ tfg (up τ n t n)
    rw [up_lt (by omega), up_n]
    exact fun z => h2 j hj ((hq j (by omega)).mpr z)

