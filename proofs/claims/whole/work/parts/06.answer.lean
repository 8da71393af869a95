/-! what the answer shows: answer, cell, isNull (own rows) -/
def IvA (σ ρ : St) : Prop := ∃ m k st : Nat, k ≤ 6 ∧ st + m ≤ 200 ∧ gi σ 12 = nI k ∧ gi ρ 13 = nI k ∧ gi σ 13 = nI m ∧ gi ρ 12 = nI m ∧ gi σ 15 = nI st ∧
  ∀ r i, r < m → i < k → ∃ p, p < 200 ∧ ga σ 21 (st + r) = nI p ∧
    ((ga ρ 18 (6 * r + i) = 0 ∧ ((ga σ 20 p >>> (nI i &&& 31)) &&& 1) = 0 ∧ gb σ 2 (6 * p + i) = gb ρ 2 (6 * r + i)) ∨
     (¬ ga ρ 18 (6 * r + i) = 0 ∧ ¬ ((ga σ 20 p >>> (nI i &&& 31)) &&& 1) = 0 ∧ gb σ 2 (6 * p + i) = 0))
theorem s_answer (N : Nat) {σ ρ : St} (h : IvA σ ρ) (x : Int32) : ∃ r, f_Q_answer N σ x = some (r, σ) ∧ f_M_answer N ρ x = some (r, ρ) := by
  obtain ⟨m, k, st, -, -, h1, h2, h3, h4, -⟩ := h
  unfold f_Q_answer f_M_answer
  rw [h1, h2, h3, h4]
  by_cases c0 : x = 0
  · rw [if_pos c0, if_pos c0]; exact ⟨_, rfl, rfl⟩
  · rw [if_neg c0, if_neg c0]
    by_cases c1 : x = 1
    · rw [if_pos c1, if_pos c1]; exact ⟨_, rfl, rfl⟩
    · rw [if_neg c1, if_neg c1]; exact ⟨_, rfl, rfl⟩
theorem x_there (N : Nat) {σ : St} {m k : Nat} (hm : m ≤ 1000) (hk : k ≤ 1000) (h1 : gi σ 13 = nI m) (h2 : gi σ 12 = nI k) (x y : Int32) :
    ((∃ r i, r < m ∧ i < k ∧ x = nI r ∧ y = nI i) ∧ f_A_has N σ x y = some (1, σ)) ∨ (¬ (∃ r i, r < m ∧ i < k ∧ x = nI r ∧ y = nI i) ∧ f_A_has N σ x y = some (0, σ)) := by
  unfold f_A_has
  rw [h1, h2]
  rcases pk_ix x (n := m) (by omega) with c | c | ⟨r, hr, rfl⟩
  · refine Or.inr ⟨?_, by rw [if_pos c]⟩
    rintro ⟨r, i, hr, -, rfl, -⟩
    exact nI_pos (by omega) c
  · refine Or.inr ⟨?_, ?_⟩
    · rintro ⟨r, i, hr, -, rfl, -⟩
      exact nI_ge hr (by omega) c
    · split
      · rfl
      · rfl
  · rw [if_neg (nI_pos (by omega)), if_neg (nI_ge hr (by omega))]
    rcases pk_ix y (n := k) (by omega) with c | c | ⟨i, hi, rfl⟩
    · refine Or.inr ⟨?_, by rw [if_pos c]⟩
      rintro ⟨r', i, -, hi, -, rfl⟩
      exact nI_pos (by omega) c
    · refine Or.inr ⟨?_, ?_⟩
      · rintro ⟨r', i, -, hi, -, rfl⟩
        exact nI_ge hi (by omega) c
      · split
        · rfl
        · rfl
    · exact Or.inl ⟨⟨r, i, hr, hi, rfl, rfl⟩, by rw [if_neg (nI_pos (by omega)), if_neg (nI_ge hi (by omega))]⟩
theorem m_there (N : Nat) {ρ : St} {m k : Nat} (hm : m ≤ 1000) (hk : k ≤ 1000) (h1 : gi ρ 12 = nI m) (h2 : gi ρ 13 = nI k) (x y : Int32) :
    ((∃ r i, r < m ∧ i < k ∧ x = nI r ∧ y = nI i) → f_M_isThere N ρ x y = some (1, ρ)) ∧ (¬ (∃ r i, r < m ∧ i < k ∧ x = nI r ∧ y = nI i) → f_M_isThere N ρ x y = some (0, ρ)) := by
  unfold f_M_isThere
  rw [h1, m_cnt N ρ hm, bd_eq, ite10, h2, m_cnt N ρ hk, bd_eq, ite10]
  constructor
  · rintro ⟨r, i, hr, hi, rfl, rfl⟩
    rw [if_pos ⟨nI_pos' (by omega), nI_lt hr (by omega)⟩, if_pos ⟨nI_pos' (by omega), nI_lt hi (by omega)⟩]
  · intro h
    by_cases c1 : 0 ≤ x ∧ x < nI m
    · rw [if_pos c1]
      by_cases c2 : 0 ≤ y ∧ y < nI k
      · exfalso
        apply h
        rcases pk_ix x (n := m) (by omega) with c | c | ⟨r, hr, e⟩
        · exact absurd c (Int32.not_lt.mpr c1.1)
        · exact absurd c1.2 (Int32.not_lt.mpr c)
        · rcases pk_ix y (n := k) (by omega) with d | d | ⟨i, hi, e2⟩
          · exact absurd d (Int32.not_lt.mpr c2.1)
          · exact absurd c2.2 (Int32.not_lt.mpr d)
          · exact ⟨r, i, hr, hi, e, e2⟩
      · rw [if_neg c2]
    · rw [if_neg c1]
theorem nI_6 {p i : Nat} : nI p * 6 + nI i = nI (6 * p + i) := by
  rw [show (6 : Int32) = nI 6 from rfl, pk_mul, nI_add, Nat.mul_comm]
theorem nI_6' {p i : Nat} : 6 * nI p + nI i = nI (6 * p + i) := by
  rw [show (6 : Int32) = nI 6 from rfl, pk_mul, nI_add]
theorem s_cell (N : Nat) {σ ρ : St} (h : IvA σ ρ) (x y : Int32) : ∃ r, f_Q_cell N σ x y = some (r, σ) ∧ f_M_cell N ρ x y = some (r, ρ) := by
  obtain ⟨m, k, st, hk, hm, h1, h2, h3, h4, h5, h6⟩ := h
  unfold f_Q_cell f_M_cell
  obtain ⟨my, mn⟩ := m_there N (ρ := ρ) (m := m) (k := k) (by omega) (by omega) h4 h2 x y
  rcases x_there N (σ := σ) (m := m) (k := k) (by omega) (by omega) h3 h1 x y with ⟨e, q⟩ | ⟨e, q⟩
  · rw [q, my e, bd_eq, bd_eq, if_neg (by decide), if_neg (by decide)]
    obtain ⟨r, i, hr, hi, rfl, rfl⟩ := e
    obtain ⟨p, hp, e1, e2⟩ := h6 r i hr hi
    unfold f_A_numberOf
    rw [h5, nI_add, ckb_nI (by omega) (by decide), nI_clamp (by omega), e1, nI_6, ckb_nI (by omega) (by decide), nI_clamp (by omega), nI_6', ckb_nI (by omega) (by decide), nI_clamp (by omega), ckb_nI (by omega) (by decide)]
    rcases e2 with ⟨a1, a2, a3⟩ | ⟨a1, a2, a3⟩
    · rw [if_pos a1, bd_eq, a3]; exact ⟨_, rfl, rfl⟩
    · rw [if_neg a1, bd_eq, a3]; exact ⟨_, rfl, rfl⟩
  · rw [q, mn e, bd_eq, bd_eq, if_pos rfl, if_pos rfl]; exact ⟨_, rfl, rfl⟩
theorem s_isNull (N : Nat) {σ ρ : St} (h : IvA σ ρ) (x y : Int32) : ∃ r, f_Q_isNull N σ x y = some (r, σ) ∧ f_M_isNull N ρ x y = some (r, ρ) := by
  obtain ⟨m, k, st, hk, hm, h1, h2, h3, h4, h5, h6⟩ := h
  unfold f_Q_isNull f_M_isNull
  obtain ⟨my, mn⟩ := m_there N (ρ := ρ) (m := m) (k := k) (by omega) (by omega) h4 h2 x y
  rcases x_there N (σ := σ) (m := m) (k := k) (by omega) (by omega) h3 h1 x y with ⟨e, q⟩ | ⟨e, q⟩
  · rw [q, my e, bd_eq, bd_eq, if_neg (by decide), if_neg (by decide)]
    obtain ⟨r, i, hr, hi, rfl, rfl⟩ := e
    obtain ⟨p, hp, e1, e2⟩ := h6 r i hr hi
    unfold f_A_lacks f_A_isNullAt
    rw [h5, nI_add, ckb_nI (by omega) (by decide), nI_clamp (by omega), e1, ckb_nI hp (by decide), nI_clamp (by omega), nI_6', ckb_nI (by omega) (by decide), nI_clamp (by omega)]
    rcases e2 with ⟨a1, a2, a3⟩ | ⟨a1, a2, a3⟩
    · rw [if_pos a1, if_pos a2, bd_eq, ckt_b (Or.inl rfl), bd_eq, if_pos rfl]; exact ⟨_, rfl, rfl⟩
    · rw [if_neg a1, if_neg a2, bd_eq, ckt_b (Or.inr rfl), bd_eq, if_neg (by decide)]; exact ⟨_, rfl, rfl⟩
  · rw [q, mn e, bd_eq, bd_eq, if_pos rfl, if_pos rfl]; exact ⟨_, rfl, rfl⟩

