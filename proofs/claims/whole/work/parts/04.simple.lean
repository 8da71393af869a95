/-! simple calls: refused on both sides alike, or kept on both sides alike (own rows) -/
abbrev TX (σ : St) (j : Nat) : Prop := (5 : Int32) ≤ ga σ 3 j ∧ ga σ 3 j ≤ 12
abbrev TM (ρ : St) (j : Nat) : Prop := (5 : Int32) ≤ ga ρ 3 j ∧ ga ρ 3 j ≤ 12
theorem x_has (N : Nat) (σ : St) (x : Int32) : f_E_has N σ x = some (if x < 0 ∨ gi σ 1 ≤ x then 0 else 1, σ) := by
  unfold f_E_has
  by_cases c1 : x < 0
  · rw [if_pos c1, if_pos (Or.inl c1)]
  · rw [if_neg c1]
    by_cases c2 : gi σ 1 ≤ x
    · rw [if_pos c2, if_pos (Or.inr c2)]
    · rw [if_neg c2, if_neg (fun h => h.elim c1 c2)]
theorem m_has (N : Nat) (ρ : St) (x : Int32) : f_M_isExpression N ρ x = some (if x < 0 ∨ gi ρ 1 ≤ x then 0 else 1, ρ) := by
  unfold f_M_isExpression
  by_cases c1 : x < 0
  · rw [if_pos c1, if_pos (Or.inl c1)]
  · rw [if_neg c1]
    by_cases c2 : gi ρ 1 ≤ x
    · rw [if_pos c2, if_pos (Or.inr c2)]
    · rw [if_neg c2, if_neg (fun h => h.elim c1 c2)]
theorem x_has_no {N : Nat} {σ : St} {x : Int32} (h : x < 0 ∨ gi σ 1 ≤ x) : f_E_has N σ x = some (0, σ) := by rw [x_has, if_pos h]
theorem m_has_no {N : Nat} {ρ : St} {x : Int32} (h : x < 0 ∨ gi ρ 1 ≤ x) : f_M_isExpression N ρ x = some (0, ρ) := by rw [m_has, if_pos h]
theorem x_has_yes {N : Nat} {σ : St} {n j : Nat} (hn : gi σ 1 = nI n) (hj : j < n) (h60 : n ≤ 60) : f_E_has N σ (nI j) = some (1, σ) := by
  rw [x_has, if_neg]
  rw [hn]
  rintro (h | h)
  · exact nI_pos (by omega) h
  · exact nI_ge hj (by omega) h
theorem m_has_yes {N : Nat} {ρ : St} {n j : Nat} (hn : gi ρ 1 = nI n) (hj : j < n) (h60 : n ≤ 60) : f_M_isExpression N ρ (nI j) = some (1, ρ) := by
  rw [m_has, if_neg]
  rw [hn]
  rintro (h | h)
  · exact nI_pos (by omega) h
  · exact nI_ge hj (by omega) h
theorem x_tr_yes {N : Nat} {σ : St} {j : Nat} (hj : j < 60) (h : TX σ j) : f_E_isTruth N σ (nI j) = some (1, σ) := by
  unfold f_E_isTruth
  rw [ckb_nI hj (by decide), ckb_nI hj (by decide), nI_clamp (by omega)]
  rw [if_neg (Int32.not_lt.mpr h.1), if_neg (Int32.not_lt.mpr h.2)]
theorem x_tr_no {N : Nat} {σ : St} {j : Nat} (hj : j < 60) (h : ¬ TX σ j) : f_E_isTruth N σ (nI j) = some (0, σ) := by
  unfold f_E_isTruth
  rw [ckb_nI hj (by decide), ckb_nI hj (by decide), nI_clamp (by omega)]
  by_cases c1 : ga σ 3 j < 5
  · rw [if_pos c1]
  · rw [if_neg c1, if_pos (Int32.not_le.mp fun h2 => h ⟨Int32.not_lt.mp c1, h2⟩)]
theorem m_tr_yes {N : Nat} {ρ : St} {j : Nat} (hj : j < 60) (h : TM ρ j) : f_M_isTruth N ρ (nI j) = some (1, ρ) := by
  unfold f_M_isTruth
  rw [ckb_nI hj (by decide), ckb_nI hj (by decide), nI_clamp (by omega)]
  rw [if_neg (Int32.not_lt.mpr h.1), if_neg (Int32.not_lt.mpr h.2)]
theorem m_tr_no {N : Nat} {ρ : St} {j : Nat} (hj : j < 60) (h : ¬ TM ρ j) : f_M_isTruth N ρ (nI j) = some (0, ρ) := by
  unfold f_M_isTruth
  rw [ckb_nI hj (by decide), ckb_nI hj (by decide), nI_clamp (by omega)]
  by_cases c1 : ga ρ 3 j < 5
  · rw [if_pos c1]
  · rw [if_neg c1, if_pos (Int32.not_le.mp fun h2 => h ⟨Int32.not_lt.mp c1, h2⟩)]
/-- what both sides know of expressions -/
def Ex (σ ρ : St) (n : Nat) : Prop := n ≤ 60 ∧ gi σ 1 = nI n ∧ gi ρ 1 = nI n ∧ ∀ j, j < n → (TX σ j ↔ TM ρ j)
/-- which expression a number names, if any -/
theorem ex_at {σ ρ : St} {n : Nat} (h : Ex σ ρ n) (x : Int32) : ((x < 0 ∨ gi σ 1 ≤ x) ∧ (x < 0 ∨ gi ρ 1 ≤ x)) ∨ ∃ j, j < n ∧ x = nI j := by
  obtain ⟨h60, h1, h2, -⟩ := h
  rcases pk_ix x (n := n) (by omega) with c | c | c
  · exact Or.inl ⟨Or.inl c, Or.inl c⟩
  · exact Or.inl ⟨Or.inr (by rw [h1]; exact c), Or.inr (by rw [h2]; exact c)⟩
  · exact Or.inr c
theorem s_item (N : Nat) {σ ρ : St} {n k : Nat} (hE : Ex σ ρ n) (hk : k ≤ 6) (h1 : gi σ 7 = nI k) (h2 : gi ρ 7 = nI k) (x : Int32) :
    (∃ r, f_Q_item N σ x = some (r, σ) ∧ f_M_item N ρ x = some (r, ρ)) ∨ (∃ j, j < n ∧ ¬ TX σ j ∧ k < 6 ∧ f_Q_item N σ x = some (nI k, si (wa σ 17 (nI k) (nI j)) 7 (nI (k + 1))) ∧ f_M_item N ρ x = some (nI k, si (wa ρ 15 (nI k) (nI j)) 7 (nI (k + 1)))) := by
  rcases ex_at hE x with ⟨c1, c2⟩ | ⟨j, hj, rfl⟩
  · refine Or.inl ⟨-101, ?_, ?_⟩
    · unfold f_Q_item; rw [x_has_no c1, bd_eq, if_pos rfl]
    · unfold f_M_item; rw [m_has_no c2, bd_eq, if_pos rfl]
  · obtain ⟨h60, e1, e2, ht⟩ := hE
    by_cases t : TX σ j
    · refine Or.inl ⟨-103, ?_, ?_⟩
      · unfold f_Q_item; rw [x_has_yes e1 hj h60, bd_eq, if_neg (by decide), x_tr_yes (by omega) t, bd_eq, if_neg (by decide)]
      · unfold f_M_item; rw [m_has_yes e2 hj h60, bd_eq, if_neg (by decide), m_tr_yes (by omega) ((ht j hj).mp t), bd_eq, if_neg (by decide)]
    · have t2 : ¬ TM ρ j := fun q => t ((ht j hj).mpr q)
      by_cases c : k < 6
      · refine Or.inr ⟨j, hj, t, c, ?_, ?_⟩
        · unfold f_Q_item f_Y_addItem
          rw [x_has_yes e1 hj h60, bd_eq, if_neg (by decide), x_tr_no (by omega) t, bd_eq, if_pos rfl, h1, if_pos (show nI k < (6 : Int32) from nI_lt c (by decide)), ckb_nI c (by decide)]
          simp only [nm_eq, bd_eq, gi_wa, gi_si, h1, nI_1, nI_pred, if_true]
        · unfold f_M_item
          rw [m_has_yes e2 hj h60, bd_eq, if_neg (by decide), m_tr_no (by omega) t2, bd_eq, if_pos rfl, h2, if_neg (fun q => by rw [show (6 : Int32) = nI 6 from rfl, nI_eq (by omega) (by decide)] at q; omega), ckb_nI c (by decide)]
          simp only [nm_eq, gi_wa, gi_si, h2, nI_1, nI_pred, if_true]
      · have hk6 : k = 6 := by omega
        subst hk6
        refine Or.inl ⟨-104, ?_, ?_⟩
        · unfold f_Q_item; rw [x_has_yes e1 hj h60, bd_eq, if_neg (by decide), x_tr_no (by omega) t, bd_eq, if_pos rfl, h1, if_neg (by decide)]
        · unfold f_M_item; rw [m_has_yes e2 hj h60, bd_eq, if_neg (by decide), m_tr_no (by omega) t2, bd_eq, if_pos rfl, h2, if_pos (show nI 6 = (6 : Int32) from rfl)]
theorem s_group (N : Nat) {σ ρ : St} {n k : Nat} (hE : Ex σ ρ n) (hk : k ≤ 4) (h1 : gi σ 6 = nI k) (h2 : gi ρ 6 = nI k) (x : Int32) :
    (∃ r, f_Q_group N σ x = some (r, σ) ∧ f_M_group N ρ x = some (r, ρ)) ∨ (∃ j, j < n ∧ ¬ TX σ j ∧ k < 4 ∧ f_Q_group N σ x = some (nI (k + 1), si (wa σ 16 (nI k) (nI j)) 6 (nI (k + 1))) ∧ f_M_group N ρ x = some (nI (k + 1), si (wa ρ 14 (nI k) (nI j)) 6 (nI (k + 1)))) := by
  rcases ex_at hE x with ⟨c1, c2⟩ | ⟨j, hj, rfl⟩
  · refine Or.inl ⟨-101, ?_, ?_⟩
    · unfold f_Q_group; rw [x_has_no c1, bd_eq, if_pos rfl]
    · unfold f_M_group; rw [m_has_no c2, bd_eq, if_pos rfl]
  · obtain ⟨h60, e1, e2, ht⟩ := hE
    by_cases t : TX σ j
    · refine Or.inl ⟨-103, ?_, ?_⟩
      · unfold f_Q_group; rw [x_has_yes e1 hj h60, bd_eq, if_neg (by decide), x_tr_yes (by omega) t, bd_eq, if_neg (by decide)]
      · unfold f_M_group; rw [m_has_yes e2 hj h60, bd_eq, if_neg (by decide), m_tr_yes (by omega) ((ht j hj).mp t), bd_eq, if_neg (by decide)]
    · have t2 : ¬ TM ρ j := fun q => t ((ht j hj).mpr q)
      by_cases c : k < 4
      · refine Or.inr ⟨j, hj, t, c, ?_, ?_⟩
        · unfold f_Q_group f_Y_addGroup
          rw [x_has_yes e1 hj h60, bd_eq, if_neg (by decide), x_tr_no (by omega) t, bd_eq, if_pos rfl, h1, if_pos (show nI k < (4 : Int32) from nI_lt c (by decide)), ckb_nI c (by decide)]
          simp only [nm_eq, bd_eq, gi_wa, gi_si, h1, nI_1, nI_pred, if_true]
        · unfold f_M_group
          rw [m_has_yes e2 hj h60, bd_eq, if_neg (by decide), m_tr_no (by omega) t2, bd_eq, if_pos rfl, h2, if_neg (fun q => by rw [show (4 : Int32) = nI 4 from rfl, nI_eq (by omega) (by decide)] at q; omega), ckb_nI c (by decide)]
          simp only [nm_eq, gi_wa, gi_si, h2, nI_1, nI_pred, if_true]
      · have hk6 : k = 4 := by omega
        subst hk6
        refine Or.inl ⟨-104, ?_, ?_⟩
        · unfold f_Q_group; rw [x_has_yes e1 hj h60, bd_eq, if_neg (by decide), x_tr_no (by omega) t, bd_eq, if_pos rfl, h1, if_neg (by decide)]
        · unfold f_M_group; rw [m_has_yes e2 hj h60, bd_eq, if_neg (by decide), m_tr_no (by omega) t2, bd_eq, if_pos rfl, h2, if_pos (show nI 4 = (4 : Int32) from rfl)]
theorem q_shape (N : Nat) (σ : St) (x1 x2 x3 : Int32) (hb : x1 = 0 ∨ x1 = 1) : f_Q_shape N σ x1 x2 x3 = if (0 ≤ x2 ∧ x2 ≤ 1000) ∧ (0 ≤ x3 ∧ x3 ≤ 1000) then some (1, si (si (si σ 9 x1) 10 x2) 11 x3) else some (-102, σ) := by
  unfold f_Q_shape f_Y_setShape
  simp only [nm_eq, ckt_b hb, bd_eq]
  split <;> rename_i c1
  · rw [if_neg]; simp only [i32_lt, i32_le] at *; omega
  split <;> rename_i c2
  · rw [if_neg]; simp only [i32_lt, i32_le] at *; omega
  split <;> rename_i c3
  · rw [if_neg]; simp only [i32_lt, i32_le] at *; omega
  split <;> rename_i c4
  · rw [if_pos]; simp only [i32_lt, i32_le] at *; omega
  · rw [if_neg]; simp only [i32_lt, i32_le] at *; omega
theorem m_shape (N : Nat) (ρ : St) (x1 x2 x3 : Int32) (hb : x1 = 0 ∨ x1 = 1) : f_M_shape N ρ x1 x2 x3 = if (0 ≤ x2 ∧ x2 ≤ 1000) ∧ (0 ≤ x3 ∧ x3 ≤ 1000) then some (1, si (si (si ρ 9 x1) 10 x2) 11 x3) else some (-102, ρ) := by
  unfold f_M_shape
  rw [m_within32 N ρ x2 0 1000 (by decide) (by decide), bd_eq, ite10, m_within32 N ρ x3 0 1000 (by decide) (by decide), bd_eq, ite10, ckt_b hb]
  by_cases c1 : 0 ≤ x2 ∧ x2 ≤ 1000
  · rw [if_pos c1]
    by_cases c2 : 0 ≤ x3 ∧ x3 ≤ 1000
    · rw [if_pos c2, if_pos ⟨c1, c2⟩]; rfl
    · rw [if_neg c2, if_neg (fun h => c2 h.2)]
  · rw [if_neg c1, if_neg (fun h => c1 h.1)]
theorem s_order (N : Nat) {σ ρ : St} {n k : Nat} (hn : n ≤ 6) (e1 : gi σ 7 = nI n) (e2 : gi ρ 7 = nI n) (hk : k ≤ 4) (h1 : gi σ 8 = nI k) (h2 : gi ρ 8 = nI k) (x b : Int32) (hb : b = 0 ∨ b = 1) :
    (∃ r, f_Q_order N σ x b = some (r, σ) ∧ f_M_order N ρ x b = some (r, ρ)) ∨ (∃ j, j < n ∧ k < 4 ∧ f_Q_order N σ x b = some (nI (k + 1), si (wz (wa σ 18 (nI k) (nI j)) 19 (nI k) b) 8 (nI (k + 1))) ∧ f_M_order N ρ x b = some (nI (k + 1), si (wz (wa ρ 16 (nI k) (nI j)) 17 (nI k) b) 8 (nI (k + 1)))) := by
  have em : ∀ y : Int32, f_M_within N ρ y.toInt64 0 (gi ρ 7 - 1).toInt64 = some (if 0 ≤ y ∧ y < nI n then 1 else 0, ρ) := by
    intro y
    rw [m_within]
    have q : (0 ≤ y.toInt64 ∧ y.toInt64 ≤ (gi ρ 7 - 1).toInt64) = (0 ≤ y ∧ y < nI n) := by
      have z : (nI n - 1).toInt = (n : Int) - 1 := pk_sub_toInt (a := n) (b := 1) (by omega) (by omega)
      simp only [i64_le, i32_le, i32_lt, i64_toInt, e2, z, nI_toInt (show n < 2 ^ 31 by omega)]
      have z0 : (0 : Int64).toInt = 0 := by decide
      have z1 : (0 : Int32).toInt = 0 := by decide
      rw [z0, z1]
      apply propext
      omega
    simp only [q]
  rcases pk_ix x (n := n) (by omega) with c | c | ⟨j, hj, rfl⟩
  · refine Or.inl ⟨-101, ?_, ?_⟩
    · unfold f_Q_order; rw [if_pos c]
    · unfold f_M_order; rw [em, bd_eq, ite10, if_neg (fun q => Int32.not_lt.mpr q.1 c)]
  · refine Or.inl ⟨-101, ?_, ?_⟩
    · unfold f_Q_order
      rw [e1, if_neg (show ¬ x < nI n from Int32.not_lt.mpr c)]
      split <;> rfl
    · unfold f_M_order; rw [em, bd_eq, ite10, if_neg (fun q => Int32.not_lt.mpr c q.2)]
  · by_cases c : k < 4
    · refine Or.inr ⟨j, hj, c, ?_, ?_⟩
      · unfold f_Q_order f_Y_addOrder
        rw [if_neg (nI_pos (by omega)), e1, if_pos (nI_lt hj (by omega)), h1, if_pos (show nI k < (4 : Int32) from nI_lt c (by decide)), ckb_nI c (by decide)]
        simp only [nm_eq, gi_wa, h1, ckb_nI c (show 4 < 2 ^ 31 by decide), bd_eq, gi_wz, gi_si, nI_1, if_true]
      · unfold f_M_order
        rw [em, bd_eq, ite10, if_pos ⟨nI_pos' (by omega), nI_lt hj (by omega)⟩, h2, if_neg (fun q => by rw [show (4 : Int32) = nI 4 from rfl, nI_eq (by omega) (by decide)] at q; omega), ckb_nI c (by decide)]
        simp only [nm_eq, gi_wa, h2, ckb_nI c (show 4 < 2 ^ 31 by decide), gi_wz, gi_si, nI_1, if_true]
    · have hk4 : k = 4 := by omega
      subst hk4
      refine Or.inl ⟨-104, ?_, ?_⟩
      · unfold f_Q_order; rw [if_neg (nI_pos (by omega)), e1, if_pos (nI_lt hj (by omega)), h1, if_neg (by decide)]
      · unfold f_M_order; rw [em, bd_eq, ite10, if_pos ⟨nI_pos' (by omega), nI_lt hj (by omega)⟩, h2, if_pos (show nI 4 = (4 : Int32) from rfl)]

