/-! more calls: condition, source, table, fresh, answer (own rows) -/
theorem m_cnt (N : Nat) (ρ : St) {n : Nat} (hn : n ≤ 1000) (y : Int32) : f_M_within N ρ y.toInt64 0 (nI n - 1).toInt64 = some (if 0 ≤ y ∧ y < nI n then 1 else 0, ρ) := by
  rw [m_within]
  have q : (0 ≤ y.toInt64 ∧ y.toInt64 ≤ (nI n - 1).toInt64) = (0 ≤ y ∧ y < nI n) := by
    have z : (nI n - 1).toInt = (n : Int) - 1 := pk_sub_toInt (a := n) (b := 1) (by omega) (by omega)
    simp only [i64_le, i32_le, i32_lt, i64_toInt, z, nI_toInt (show n < 2 ^ 31 by omega)]
    have z0 : (0 : Int64).toInt = 0 := by decide
    have z1 : (0 : Int32).toInt = 0 := by decide
    rw [z0, z1]
    apply propext
    omega
  simp only [q]
theorem x_cond26 {N : Nat} {σ : St} {x : Int32} {j : Nat} (hj : j < 60) : f_Q_condition_26 N σ x (nI j) = (if TX σ j then (if x = 0 then some (1, si σ 4 (nI j)) else some (1, si σ 5 (nI j))) else some (-103, σ)) := by
  unfold f_Q_condition_26
  by_cases t : TX σ j
  · rw [x_tr_yes hj t, bd_eq, if_neg (by decide), if_pos t]; rfl
  · rw [x_tr_no hj t, bd_eq, if_pos rfl, if_neg t]
theorem s_condition (N : Nat) {σ ρ : St} {n : Nat} (hE : Ex σ ρ n) (x1 x2 : Int32) :
    (∃ r, f_Q_condition N σ x1 x2 = some (r, σ) ∧ f_M_condition N ρ x1 x2 = some (r, ρ)) ∨
    (∃ j, j < n ∧ TX σ j ∧ f_Q_condition N σ x1 x2 = some (1, si σ 4 (nI j)) ∧ f_M_condition N ρ x1 x2 = some (1, si (si ρ 4 (nI j)) 5 (gi ρ 5))) ∨
    (∃ j, j < n ∧ TX σ j ∧ f_Q_condition N σ x1 x2 = some (1, si σ 5 (nI j)) ∧ f_M_condition N ρ x1 x2 = some (1, si (si ρ 4 (gi ρ 4)) 5 (nI j))) := by
  rcases ex_at hE x2 with ⟨c1, c2⟩ | ⟨j, hj, rfl⟩
  · refine Or.inl ⟨-101, ?_, ?_⟩
    · unfold f_Q_condition; rw [x_has_no c1, bd_eq, if_pos rfl]
    · unfold f_M_condition; rw [m_has_no c2, bd_eq, if_pos rfl]
  · obtain ⟨h60, e1, e2, ht⟩ := hE
    have em : f_M_within N ρ x1.toInt64 0 1 = some (if x1 = 0 ∨ x1 = 1 then 1 else 0, ρ) := by
      rw [m_within32 N ρ x1 0 1 (by decide) (by decide)]
      have q : (0 ≤ x1 ∧ x1 ≤ 1) = (x1 = 0 ∨ x1 = 1) := by
        simp only [i32_le, i32_eq]
        have z0 : (0 : Int32).toInt = 0 := by decide
        have z1 : (1 : Int32).toInt = 1 := by decide
        rw [z0, z1]
        apply propext
        omega
      simp only [q]
    by_cases c : x1 = 0 ∨ x1 = 1
    · by_cases t : TX σ j
      · have t2 := (ht j hj).mp t
        rcases c with rfl | rfl
        · refine Or.inr (Or.inl ⟨j, hj, t, ?_, ?_⟩)
          · unfold f_Q_condition; rw [x_has_yes e1 hj h60, bd_eq, if_neg (by decide), if_pos rfl, x_cond26 (by omega), if_pos t, if_pos rfl]
          · unfold f_M_condition f_M_condition_48; rw [m_has_yes e2 hj h60, bd_eq, if_neg (by decide), em, bd_eq, ite10, if_pos (Or.inl rfl), m_tr_yes (by omega) t2, bd_eq, if_neg (by decide), if_pos rfl, nm_eq, if_neg (by decide)]; rfl
        · refine Or.inr (Or.inr ⟨j, hj, t, ?_, ?_⟩)
          · unfold f_Q_condition; rw [x_has_yes e1 hj h60, bd_eq, if_neg (by decide), if_neg (by decide), if_pos rfl, x_cond26 (by omega), if_pos t, if_neg (by decide)]
          · unfold f_M_condition f_M_condition_48; rw [m_has_yes e2 hj h60, bd_eq, if_neg (by decide), em, bd_eq, ite10, if_pos (Or.inr rfl), m_tr_yes (by omega) t2, bd_eq, if_neg (by decide), if_neg (by decide), nm_eq, if_pos rfl]; rfl
      · have t2 : ¬ TM ρ j := fun q => t ((ht j hj).mpr q)
        refine Or.inl ⟨-103, ?_, ?_⟩
        · unfold f_Q_condition
          rw [x_has_yes e1 hj h60, bd_eq, if_neg (by decide), x_cond26 (by omega), if_neg t]
          rcases c with rfl | rfl
          · rw [if_pos rfl]
          · rw [if_neg (by decide), if_pos rfl]
        · unfold f_M_condition; rw [m_has_yes e2 hj h60, bd_eq, if_neg (by decide), em, bd_eq, ite10, if_pos c, m_tr_no (by omega) t2, bd_eq, if_pos rfl]
    · refine Or.inl ⟨-102, ?_, ?_⟩
      · unfold f_Q_condition; rw [x_has_yes e1 hj h60, bd_eq, if_neg (by decide), if_neg (fun q => c (Or.inl q)), if_neg (fun q => c (Or.inr q))]
      · unfold f_M_condition; rw [m_has_yes e2 hj h60, bd_eq, if_neg (by decide), em, bd_eq, ite10, if_neg c]
theorem s_table (N : Nat) {σ ρ : St} {n : Nat} (hn : n ≤ 6) (h1 : gi σ 0 = nI n) (h2 : gi ρ 0 = nI n) (x : Int32) :
    (∃ r, f_Q_table N σ x = some (r, σ) ∧ f_M_table N ρ x = some (r, ρ)) ∨
    (∃ w, 1 ≤ w ∧ w ≤ 4 ∧ n < 6 ∧ f_Q_table N σ x = some (nI n, si (wa σ 0 (nI n) (nI w)) 0 (nI (n + 1))) ∧ f_M_table N ρ x = some (nI n, si (wa (wa ρ 0 (nI n) (nI w)) 1 (nI n) 0) 0 (nI (n + 1)))) := by
  by_cases c : 1 ≤ x ∧ x ≤ 4
  · obtain ⟨w, hw, rfl⟩ : ∃ w : Nat, w < 5 ∧ x = nI w := by
      rcases pk_ix x (n := 5) (by decide) with q | q | q
      · exact absurd q (by have := c.1; simp only [i32_lt, i32_le] at *; have z0 : (0 : Int32).toInt = 0 := by decide
                           have z1 : (1 : Int32).toInt = 1 := by decide
                           omega)
      · exact absurd q (by have := c.2; simp only [i32_le] at *; have z0 : (4 : Int32).toInt = 4 := by decide
                           have z1 : (nI 5).toInt = 5 := by decide
                           omega)
      · exact q
    have hw1 : 1 ≤ w := by
      have := c.1
      rw [show (1 : Int32) = nI 1 from rfl, nI_leI (by decide) (by omega)] at this
      exact this
    by_cases h6 : n < 6
    · refine Or.inr ⟨w, hw1, by omega, h6, ?_, ?_⟩
      · unfold f_Q_table f_T_addTable
        rw [if_neg (Int32.not_lt.mpr c.1), if_pos c.2, h1, if_pos (show nI n < (6 : Int32) from nI_lt h6 (by decide)), ckb_nI h6 (by decide)]
        simp only [nm_eq, bd_eq, gi_wa, gi_si, h1, nI_1, nI_pred, if_true]
      · unfold f_M_table
        rw [m_within32 N ρ (nI w) 1 4 (by decide) (by decide), bd_eq, ite10, if_pos c, h2, if_neg (fun q => by rw [show (6 : Int32) = nI 6 from rfl, nI_eq (by omega) (by decide)] at q; omega), ckb_nI h6 (by decide)]
        simp only [nm_eq, gi_wa, h2, ckb_nI h6 (show 6 < 2 ^ 31 by decide), gi_si, nI_1, nI_pred, if_true]
    · have hn6 : n = 6 := by omega
      subst hn6
      refine Or.inl ⟨-104, ?_, ?_⟩
      · unfold f_Q_table; rw [if_neg (Int32.not_lt.mpr c.1), if_pos c.2, h1, if_neg (by decide)]
      · unfold f_M_table; rw [m_within32 N ρ (nI w) 1 4 (by decide) (by decide), bd_eq, ite10, if_pos c, h2, if_pos (show nI 6 = (6 : Int32) from rfl)]
  · refine Or.inl ⟨-102, ?_, ?_⟩
    · unfold f_Q_table
      by_cases d : x < 1
      · rw [if_pos d]
      · rw [if_neg d, if_neg (fun q => c ⟨Int32.not_lt.mp d, q⟩)]
    · unfold f_M_table; rw [m_within32 N ρ x 1 4 (by decide) (by decide), bd_eq, ite10, if_neg c]
def frX (σ : St) : St := si (si (si (si (si (si (si (si (si (si (si σ 1 0) 2 0) 3 0) 4 (-1)) 5 (-1)) 6 0) 7 0) 8 0) 9 0) 10 1000) 11 0
def frM (σ : St) : St := si (si (si (si (si (si (si (si (si (si (si σ 1 0) 2 0) 3 0) 4 (-1)) 5 (-1)) 6 0) 7 0) 8 0) 9 0) 10 1000) 11 0
theorem q_fresh (N : Nat) (σ : St) : f_Q_fresh N σ = some (gi σ 1, frX σ) := by
  unfold f_Q_fresh f_E_clear f_Y_clear f_Y_setShape
  simp only [nm_eq, bd_eq, ckt_b (Or.inl rfl)]
  rfl
theorem m_fresh (N : Nat) (ρ : St) : f_M_fresh N ρ = some (gi ρ 1, frM ρ) := rfl
theorem x_thas_no {N : Nat} {σ : St} {x : Int32} (h : x < 0 ∨ gi σ 0 ≤ x) : f_T_has N σ x = some (0, σ) := by
  unfold f_T_has
  by_cases c1 : x < 0
  · rw [if_pos c1]
  · rw [if_neg c1, if_pos (h.resolve_left c1)]
theorem x_thas_yes {N : Nat} {σ : St} {n j : Nat} (hn : gi σ 0 = nI n) (hj : j < n) (h60 : n ≤ 60) : f_T_has N σ (nI j) = some (1, σ) := by
  unfold f_T_has
  rw [if_neg (nI_pos (by omega)), hn, if_neg (nI_ge hj (by omega))]
/-- a source is kept: both sides' new states -/
def adX (σ : St) (k t hw : Nat) (on : Int32) : St := si (wa (wa (wa σ 13 (nI k) (nI t)) 14 (nI k) (nI hw)) 15 (nI k) on) 3 (nI (k + 1))
def adM (ρ : St) (k t hw : Nat) (on : Int32) : St := si (wa (wa (wa ρ 11 (nI k) (nI t)) 12 (nI k) (nI hw)) 13 (nI k) on) 3 (nI (k + 1))
theorem x_s100 {N : Nat} {σ : St} {k t hw : Nat} (hk : k ≤ 3) (h1 : gi σ 3 = nI k) (on : Int32) : f_Q_source_100 N σ (nI t) (nI hw) on = if k < 3 then some (nI (k + 1), adX σ k t hw on) else some (-104, σ) := by
  unfold f_Q_source_100 f_Y_addSource
  by_cases c : k < 3
  · rw [h1, if_pos (show nI k < (3 : Int32) from nI_lt c (by decide)), if_pos c, ckb_nI c (by decide)]
    simp only [nm_eq, gi_wa, h1, ckb_nI c (show 3 < 2 ^ 31 by decide), bd_eq, gi_si, nI_1, if_true]
    rfl
  · have : k = 3 := by omega
    subst this
    rw [h1, if_neg (by decide), if_neg c]
theorem m_s87 {N : Nat} {ρ : St} {k t hw : Nat} (hk : k ≤ 3) (h2 : gi ρ 3 = nI k) (on : Int32) : f_M_source_87 N ρ (nI t) (nI hw) on = if k < 3 then some (nI (k + 1), adM ρ k t hw on) else some (-104, ρ) := by
  unfold f_M_source_87
  by_cases c : k < 3
  · rw [h2, if_neg (fun q => by rw [show (3 : Int32) = nI 3 from rfl, nI_eq (by omega) (by decide)] at q; omega), if_pos c, ckb_nI c (by decide)]
    simp only [nm_eq, gi_wa, h2, ckb_nI c (show 3 < 2 ^ 31 by decide), gi_si, nI_1, if_true]
    rfl
  · have : k = 3 := by omega
    subst this
    rw [h2, if_pos (show nI 3 = (3 : Int32) from rfl), if_neg c]
/-- an ON that goes with a how -/
abbrev OnOk (σ : St) (n hw : Nat) (on : Int32) : Prop := (hw = 0 ∧ on = -1) ∨ (hw ≠ 0 ∧ ∃ j, j < n ∧ on = nI j ∧ TX σ j)
theorem nI_ne_m1 {j : Nat} (h : j < 2 ^ 31) : ¬ nI j = (-1 : Int32) := fun q => by
  have h1 := nI_toInt h
  rw [q] at h1
  have h2 : (-1 : Int32).toInt = -1 := by decide
  omega
theorem nI_z {j : Nat} (h : j < 2 ^ 31) : nI j = (0 : Int32) ↔ j = 0 := by
  rw [show (0 : Int32) = nI 0 from rfl, nI_eq h (by decide)]
theorem x_s30 {N : Nat} {σ : St} {n k t : Nat} (hn : n ≤ 60) (hk : k ≤ 3) (h1 : gi σ 3 = nI k) (x2 on : Int32) (hon : on = -1 ∨ ∃ j, j < n ∧ on = nI j) :
    (∃ hw, hw ≤ 2 ∧ x2 = nI hw ∧ (k = 0 → hw = 0) ∧ OnOk σ n hw on ∧ f_Q_source_30 N σ (nI t) x2 on = if k < 3 then some (nI (k + 1), adX σ k t hw on) else some (-104, σ)) ∨
    (¬ (0 ≤ x2 ∧ x2 ≤ 2) ∧ f_Q_source_30 N σ (nI t) x2 on = some (-102, σ)) ∨
    (∃ hw, hw ≤ 2 ∧ x2 = nI hw ∧ ¬ ((k = 0 → hw = 0) ∧ OnOk σ n hw on) ∧ f_Q_source_30 N σ (nI t) x2 on = some (-103, σ)) := by
  unfold f_Q_source_30
  rcases pk_ix x2 (n := 3) (by decide) with c | c | ⟨hw, hh, rfl⟩
  · refine Or.inr (Or.inl ⟨fun q => Int32.not_lt.mpr q.1 c, ?_⟩)
    rw [if_pos c]
  · have c2 : ¬ x2 ≤ 2 := fun q => by
      simp only [i32_le] at *
      have z0 : (2 : Int32).toInt = 2 := by decide
      have z1 : (nI 3).toInt = 3 := by decide
      omega
    refine Or.inr (Or.inl ⟨fun q => c2 q.2, ?_⟩)
    rw [if_neg c2]
    split <;> rfl
  · rw [if_neg (nI_pos (by omega)), if_pos (show nI hw ≤ (2 : Int32) from nI_le (a := hw) (b := 2) (by omega) (by decide)), h1]
    have key : f_Q_source_59 N σ (nI t) (nI hw) on = if OnOk σ n hw on then (if k < 3 then some (nI (k + 1), adX σ k t hw on) else some (-104, σ)) else some (-103, σ) := by
      unfold f_Q_source_59 f_Q_source_68 f_Q_source_78
      rcases hon with rfl | ⟨j, hj, rfl⟩
      · by_cases z : hw = 0
        · subst z
          rw [if_pos (show nI 0 = (0 : Int32) from rfl), if_pos rfl, if_pos rfl, if_pos rfl, x_s100 hk h1, if_pos (Or.inl ⟨rfl, rfl⟩)]
        · rw [if_neg (fun q => z ((nI_z (by omega)).mp q)), if_pos rfl, if_neg (by decide), if_neg]
          rintro (⟨q, -⟩ | ⟨-, j, hj, q, -⟩)
          · exact z q
          · exact nI_ne_m1 (by omega) q.symm
      · have m1 : ¬ nI j = (-1 : Int32) := nI_ne_m1 (by omega)
        by_cases z : hw = 0
        · subst z
          rw [if_pos (show nI 0 = (0 : Int32) from rfl), if_neg m1, if_neg (by decide), if_neg]
          rintro (⟨-, q⟩ | ⟨q, -⟩)
          · exact m1 q
          · exact q rfl
        · rw [if_neg (fun q => z ((nI_z (by omega)).mp q)), if_neg m1, if_pos rfl, if_neg m1]
          by_cases tt : TX σ j
          · rw [x_tr_yes (by omega) tt, bd_eq, if_neg (by decide), x_s100 hk h1, if_pos (Or.inr ⟨z, j, hj, rfl, tt⟩)]
          · rw [x_tr_no (by omega) tt, bd_eq, if_pos rfl, if_neg]
            rintro (⟨q, -⟩ | ⟨-, j', hj', q, tt'⟩)
            · exact z q
            · rw [nI_eq (by omega) (by omega)] at q
              subst q
              exact tt tt'
    have all : (if nI k = 0 then (if nI hw = 0 then f_Q_source_59 N σ (nI t) (nI hw) on else some (-103, σ)) else f_Q_source_59 N σ (nI t) (nI hw) on) = if (k = 0 → hw = 0) ∧ OnOk σ n hw on then (if k < 3 then some (nI (k + 1), adX σ k t hw on) else some (-104, σ)) else some (-103, σ) := by
      rw [key]
      by_cases k0 : k = 0
      · rw [if_pos ((nI_z (by omega)).mpr k0)]
        by_cases z : hw = 0
        · rw [if_pos ((nI_z (by omega)).mpr z)]
          by_cases o : OnOk σ n hw on
          · rw [if_pos o, if_pos (show (k = 0 → hw = 0) ∧ OnOk σ n hw on from ⟨fun _ => z, o⟩)]
          · rw [if_neg o, if_neg (fun q => o q.2)]
        · rw [if_neg (fun q => z ((nI_z (by omega)).mp q)), if_neg (fun q => z (q.1 k0))]
      · rw [if_neg (fun q => k0 ((nI_z (by omega)).mp q))]
        by_cases o : OnOk σ n hw on
        · rw [if_pos o, if_pos (show (k = 0 → hw = 0) ∧ OnOk σ n hw on from ⟨fun q => absurd q k0, o⟩)]
        · rw [if_neg o, if_neg (fun q => o q.2)]
    rw [all]
    by_cases f : (k = 0 → hw = 0) ∧ OnOk σ n hw on
    · exact Or.inl ⟨hw, by omega, rfl, f.1, f.2, by rw [if_pos f]⟩
    · exact Or.inr (Or.inr ⟨hw, by omega, rfl, f, by rw [if_neg f]⟩)
theorem m_s32 {N : Nat} {σ ρ : St} {n k t : Nat} (hn : n ≤ 60) (ht : ∀ j, j < n → (TX σ j ↔ TM ρ j)) (hk : k ≤ 3) (h2 : gi ρ 3 = nI k) (x2 on : Int32) (hon : on = -1 ∨ ∃ j, j < n ∧ on = nI j) :
    (∀ hw, hw ≤ 2 → x2 = nI hw → (k = 0 → hw = 0) → OnOk σ n hw on → f_M_source_32 N ρ (nI t) x2 on = if k < 3 then some (nI (k + 1), adM ρ k t hw on) else some (-104, ρ)) ∧
    (¬ (0 ≤ x2 ∧ x2 ≤ 2) → f_M_source_32 N ρ (nI t) x2 on = some (-102, ρ)) ∧
    (∀ hw, hw ≤ 2 → x2 = nI hw → ¬ ((k = 0 → hw = 0) ∧ OnOk σ n hw on) → f_M_source_32 N ρ (nI t) x2 on = some (-103, ρ)) := by
  unfold f_M_source_32
  rw [m_within32 N ρ x2 0 2 (by decide) (by decide), bd_eq, ite10]
  have key : ∀ hw, hw ≤ 2 → f_M_source_58 N ρ (nI t) (nI hw) on = if OnOk σ n hw on then (if k < 3 then some (nI (k + 1), adM ρ k t hw on) else some (-104, ρ)) else some (-103, ρ) := by
    intro hw hh
    unfold f_M_source_58 f_M_source_67
    rcases hon with rfl | ⟨j, hj, rfl⟩
    · by_cases z : hw = 0
      · subst z
        rw [if_pos (show nI 0 = (0 : Int32) from rfl), if_pos rfl, if_pos (show nI 0 ≤ (0 : Int32) by decide), m_s87 hk h2, if_pos (Or.inl ⟨rfl, rfl⟩)]
      · rw [if_neg (fun q => z ((nI_z (by omega)).mp q)), if_neg (nI_nle (by omega) (by omega)), if_pos rfl, if_neg]
        rintro (⟨q, -⟩ | ⟨-, j, hj, q, -⟩)
        · exact z q
        · exact nI_ne_m1 (by omega) q.symm
    · have m1 : ¬ nI j = (-1 : Int32) := nI_ne_m1 (by omega)
      by_cases z : hw = 0
      · subst z
        rw [if_pos (show nI 0 = (0 : Int32) from rfl), if_neg m1, if_neg]
        rintro (⟨-, q⟩ | ⟨q, -⟩)
        · exact m1 q
        · exact q rfl
      · rw [if_neg (fun q => z ((nI_z (by omega)).mp q)), if_neg (nI_nle (by omega) (by omega)), if_neg m1]
        by_cases tt : TX σ j
        · rw [m_tr_yes (by omega) ((ht j hj).mp tt), bd_eq, if_neg (by decide), m_s87 hk h2, if_pos (Or.inr ⟨z, j, hj, rfl, tt⟩)]
        · rw [m_tr_no (by omega) (fun q => tt ((ht j hj).mpr q)), bd_eq, if_pos rfl, if_neg]
          rintro (⟨q, -⟩ | ⟨-, j', hj', q, tt'⟩)
          · exact z q
          · rw [nI_eq (by omega) (by omega)] at q
            subst q
            exact tt tt'
  have in2 : ∀ hw, hw ≤ 2 → (0 ≤ nI hw ∧ nI hw ≤ 2) := fun hw hh => ⟨nI_pos' (by omega), nI_le (a := hw) (b := 2) hh (by decide)⟩
  have all : ∀ hw, hw ≤ 2 → (if nI k = 0 then (if nI hw = 0 then f_M_source_58 N ρ (nI t) (nI hw) on else some (-103, ρ)) else f_M_source_58 N ρ (nI t) (nI hw) on) = if (k = 0 → hw = 0) ∧ OnOk σ n hw on then (if k < 3 then some (nI (k + 1), adM ρ k t hw on) else some (-104, ρ)) else some (-103, ρ) := by
    intro hw hh
    rw [key hw hh]
    by_cases k0 : k = 0
    · rw [if_pos ((nI_z (by omega)).mpr k0)]
      by_cases z : hw = 0
      · rw [if_pos ((nI_z (by omega)).mpr z)]
        by_cases o : OnOk σ n hw on
        · rw [if_pos o, if_pos (show (k = 0 → hw = 0) ∧ OnOk σ n hw on from ⟨fun _ => z, o⟩)]
        · rw [if_neg o, if_neg (fun q => o q.2)]
      · rw [if_neg (fun q => z ((nI_z (by omega)).mp q)), if_neg (fun q => z (q.1 k0))]
    · rw [if_neg (fun q => k0 ((nI_z (by omega)).mp q))]
      by_cases o : OnOk σ n hw on
      · rw [if_pos o, if_pos (show (k = 0 → hw = 0) ∧ OnOk σ n hw on from ⟨fun q => absurd q k0, o⟩)]
      · rw [if_neg o, if_neg (fun q => o q.2)]
  refine ⟨fun hw hh e h0 o => ?_, fun c => by rw [if_neg c], fun hw hh e f => ?_⟩
  · subst e
    rw [if_pos (in2 hw hh), h2, all hw hh, if_pos ⟨h0, o⟩]
  · subst e
    rw [if_pos (in2 hw hh), h2, all hw hh, if_neg f]
theorem s_source (N : Nat) {σ ρ : St} {n nt k : Nat} (hE : Ex σ ρ n) (hnt : nt ≤ 6) (t1 : gi σ 0 = nI nt) (t2 : gi ρ 0 = nI nt) (hk : k ≤ 3) (h1 : gi σ 3 = nI k) (h2 : gi ρ 3 = nI k) (x1 x2 x3 : Int32) :
    (∃ r, f_Q_source N σ x1 x2 x3 = some (r, σ) ∧ f_M_source N ρ x1 x2 x3 = some (r, ρ)) ∨
    (∃ t hw, t < nt ∧ hw ≤ 2 ∧ k < 3 ∧ (k = 0 → hw = 0) ∧ OnOk σ n hw x3 ∧ f_Q_source N σ x1 x2 x3 = some (nI (k + 1), adX σ k t hw x3) ∧ f_M_source N ρ x1 x2 x3 = some (nI (k + 1), adM ρ k t hw x3)) := by
  have em := m_cnt N ρ (n := nt) (by omega) x1
  rcases pk_ix x1 (n := nt) (by omega) with c | c | ⟨t, ht, rfl⟩
  · refine Or.inl ⟨-101, ?_, ?_⟩
    · unfold f_Q_source; rw [x_thas_no (Or.inl c), bd_eq, if_pos rfl]
    · unfold f_M_source; rw [t2, em, bd_eq, ite10, if_neg (fun q => Int32.not_lt.mpr q.1 c)]
  · refine Or.inl ⟨-101, ?_, ?_⟩
    · unfold f_Q_source; rw [x_thas_no (Or.inr (by rw [t1]; exact c)), bd_eq, if_pos rfl]
    · unfold f_M_source; rw [t2, em, bd_eq, ite10, if_neg (fun q => Int32.not_lt.mpr c q.2)]
  · have eX : f_Q_source N σ (nI t) x2 x3 = if x3 = -1 then f_Q_source_30 N σ (nI t) x2 x3 else bd (f_E_has N σ x3) fun r7 s8 => if r7 = 0 then some (-101, s8) else f_Q_source_30 N s8 (nI t) x2 x3 := by
      unfold f_Q_source; rw [x_thas_yes t1 ht (by omega), bd_eq, if_neg (by decide)]
    have eM : f_M_source N ρ (nI t) x2 x3 = if x3 = -1 then f_M_source_32 N ρ (nI t) x2 x3 else bd (f_M_isExpression N ρ x3) fun r7 s8 => if r7 = 0 then some (-101, s8) else f_M_source_32 N s8 (nI t) x2 x3 := by
      unfold f_M_source; rw [t2, em, bd_eq, ite10, if_pos ⟨nI_pos' (by omega), nI_lt ht (by omega)⟩]
    have fin : (x3 = -1 ∨ ∃ j, j < n ∧ x3 = nI j) → f_Q_source N σ (nI t) x2 x3 = f_Q_source_30 N σ (nI t) x2 x3 → f_M_source N ρ (nI t) x2 x3 = f_M_source_32 N ρ (nI t) x2 x3 → (∃ r, f_Q_source N σ (nI t) x2 x3 = some (r, σ) ∧ f_M_source N ρ (nI t) x2 x3 = some (r, ρ)) ∨ (∃ t' hw, t' < nt ∧ hw ≤ 2 ∧ k < 3 ∧ (k = 0 → hw = 0) ∧ OnOk σ n hw x3 ∧ f_Q_source N σ (nI t) x2 x3 = some (nI (k + 1), adX σ k t' hw x3) ∧ f_M_source N ρ (nI t) x2 x3 = some (nI (k + 1), adM ρ k t' hw x3)) := by
      intro hon q1 q2
      obtain ⟨m1, m2, m3⟩ := m_s32 (N := N) (t := t) hE.1 hE.2.2.2 hk h2 x2 x3 hon
      rw [q1, q2]
      rcases x_s30 (N := N) (t := t) hE.1 hk h1 x2 x3 hon with ⟨hw, hh, e, h0, o, q⟩ | ⟨c, q⟩ | ⟨hw, hh, e, f, q⟩
      · rw [q, m1 hw hh e h0 o]
        by_cases k3 : k < 3
        · rw [if_pos k3, if_pos k3]; exact Or.inr ⟨t, hw, ht, hh, k3, h0, o, rfl, rfl⟩
        · rw [if_neg k3, if_neg k3]; exact Or.inl ⟨_, rfl, rfl⟩
      · rw [q, m2 c]; exact Or.inl ⟨_, rfl, rfl⟩
      · rw [q, m3 hw hh e f]; exact Or.inl ⟨_, rfl, rfl⟩
    by_cases z : x3 = -1
    · exact fin (Or.inl z) (by rw [eX, if_pos z]) (by rw [eM, if_pos z])
    · rcases ex_at hE x3 with ⟨c1, c2⟩ | ⟨j, hj, e⟩
      · refine Or.inl ⟨-101, ?_, ?_⟩
        · rw [eX, if_neg z, x_has_no c1, bd_eq, if_pos rfl]
        · rw [eM, if_neg z, m_has_no c2, bd_eq, if_pos rfl]
      · refine fin (Or.inr ⟨j, hj, e⟩) ?_ ?_
        · rw [eX, if_neg z, e, x_has_yes hE.2.1 hj hE.1, bd_eq, if_neg (by decide)]
        · rw [eM, if_neg z, e, m_has_yes hE.2.2.1 hj hE.1, bd_eq, if_neg (by decide)]

