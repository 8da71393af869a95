/-! op on both sides (own rows) -/
theorem out_n {x : Int32} {n : Nat} (hn : n < 2 ^ 31) (c : x < 0 ∨ nI n ≤ x) (k : Nat) (hk : k < n) : ¬ x = nI k := by
  intro z
  subst z
  rcases c with c | c
  · exact nI_pos (by omega) c
  · exact nI_ge hk hn c
theorem m_n60 {σ ρ : St} {n m : Nat} {τ : Nat → Tr} (h : IvE σ ρ n m τ) (c : n < 60) : ¬ gi ρ 1 = (60 : Int32) := by
  rw [h.2.2.2.1]
  exact fun z => by have := (nI_eq (b := 60) (by omega) (by decide)).mp z; omega
theorem tX {σ ρ : St} {n m j : Nat} {τ : Nat → Tr} (h : IvE σ ρ n m τ) (hj : j < n) : TX σ j ↔ tru (τ j) := tru_X (h.2.2.2.2.2.2.1 j hj).2.2.1 (h.2.2.2.2.2.2.1 j hj).1
theorem tM {σ ρ : St} {n m j : Nat} {τ : Nat → Tr} (h : IvE σ ρ n m τ) (hj : j < n) : TM ρ j ↔ tru (τ j) := tru_M (h.2.2.2.2.2.2.1 j hj).2.2.1 (h.2.2.2.2.2.2.1 j hj).2.1
theorem s_op2 (N : Nat) (hN : 60 < N) {σ ρ : St} {n m : Nat} {τ : Nat → Tr} (h : IvE σ ρ n m τ) {q i j : Nat} (hq : q ≤ 10) (hi : i < n) (hj : j < n) :
    (∃ r, f_Q_op_49 N σ (nI q) (nI i) (nI j) 0 = some (r, σ) ∧ f_M_op_27 N ρ (nI q) (nI i) (nI j) = some (r, ρ)) ∨ Grown σ ρ n m τ (f_Q_op_49 N σ (nI q) (nI i) (nI j) 0) (f_M_op_27 N ρ (nI q) (nI i) (nI j)) := by
  have h60 := h.1
  have hp := h.2.2.2.2.2.2.1
  have P9 : (9 ≤ q ∧ q ≤ 11) ↔ 9 ≤ q := by omega
  rw [x_op49 (by omega), m_op27 (by omega)]
  unfold f_Q_op_85 f_M_op_59
  simp only [x_tr (show i < 60 by omega), x_tr (show j < 60 by omega), m_tr (show i < 60 by omega), m_tr (show j < 60 by omega), bd_eq, ite_iff, m_two, if_true]
  rw [if_pos (show nI q ≤ (10 : Int32) from nI_le (b := 10) hq (by decide)), if_neg (show ¬ (1 : Int32) = 0 by decide)]
  have ex : ∀ {u : Nat}, u < n → ((TX σ u ↔ 9 ≤ q ∧ q ≤ 11) ↔ (tru (τ u) ↔ 9 ≤ q)) := fun hu => by rw [tX h hu, P9]
  have em : ∀ {u : Nat}, u < n → ((TM ρ u ↔ 9 ≤ q ∧ q ≤ 11) ↔ (tru (τ u) ↔ 9 ≤ q)) := fun hu => by rw [tM h hu, P9]
  by_cases c1 : tru (τ i) ↔ 9 ≤ q
  · rw [if_pos ((ex hi).mpr c1), if_pos ((em hi).mpr c1)]
    by_cases c2 : tru (τ j) ↔ 9 ≤ q
    · rw [if_pos ((ex hj).mpr c2), if_pos ((em hj).mpr c2)]
      unfold f_Q_op_121 f_Q_op_131 f_M_op_92 f_M_op_127 f_M_op_152
      have r1 : RF τ n (nI i) (some (τ i)) := ⟨i, hi, rfl, rfl⟩
      have r2 : RF τ n (nI j) (some (τ j)) := ⟨j, hj, rfl, rfl⟩
      have s1 := (hp i hi).2.2.2.2.2.2.1
      have s2 := (hp j hj).2.2.2.2.2.2.1
      have z1 := (hp i hi).2.2.2.1
      have z2 := (hp j hj).2.2.2.1
      simp only [if_true, x_room h r1 r2, bd_eq, ite10, ckb_nI (show i < 60 by omega) (show 60 < 2 ^ 31 by decide), ckb_nI (show j < 60 by omega) (show 60 < 2 ^ 31 by decide), nI_clamp (show i < 2 ^ 31 by omega), nI_clamp (show j < 2 ^ 31 by omega), s1, s2, m_two]
      rw [if_pos (show nI q ≤ (10 : Int32) from nI_le (b := 10) hq (by decide)), show (1 : Int32) + nI (tsz (τ i)) + nI (tsz (τ j)) = nI (1 + tsz (τ i) + tsz (τ j)) by rw [show (1 : Int32) = nI 1 from rfl, nI_add, nI_add]]
      by_cases c : n < 60
      · rw [if_neg (m_n60 h c)]
        by_cases d : 1 + tsz (τ i) + tsz (τ j) ≤ 60
        · right
          rw [if_pos (show n < 60 ∧ 1 + os tsz (some (τ i)) + os tsz (some (τ j)) ≤ 60 from ⟨c, d⟩), if_pos (show nI (1 + tsz (τ i) + tsz (τ j)) ≤ (60 : Int32) from nI_le (b := 60) d (by decide))]
          have wf : twf (two q (τ i) (τ j)) := ⟨hq, c1, c2, (hp i hi).2.2.1, (hp j hj).2.2.1⟩
          have w1 := (hp i hi).2.2.2.2.2.2.2.2.2.1
          have w2 := (hp j hj).2.2.2.2.2.2.2.2.2.1
          have e1 : (1 : Int32) + ga ρ 7 i + ga ρ 7 j = nI (tsz (two q (τ i) (τ j))) := by
            rw [s1, s2, show (1 : Int32) = nI 1 from rfl, nI_add, nI_add]; rfl
          have e2 : (if tab (two q (τ i) (τ j)) = 0 then (0 : Int32) else 1) = if ga ρ 8 i = 0 ∧ ga ρ 8 j = 0 then 0 else 1 := by
            rw [w1, w2]
            show (if tab (τ i) ||| tab (τ j) = 0 then (0 : Int32) else 1) = _
            simp only [Nat.or_eq_zero_iff]
            by_cases y1 : tab (τ i) = 0 <;> by_cases y2 : tab (τ j) = 0 <;> simp [y1, y2]
          obtain ⟨l, l', f1, f2, f3⟩ := grow N hN (t := two q (τ i) (τ j)) (k := nI q) (v := 0) (a := nI i) (b := nI j) (km := nI q) (am := nI i) (bm := nI j) (vm := 0) (f := 0) (sz := 1 + ga ρ 7 i + ga ρ 7 j) (wg := if tab (two q (τ i) (τ j)) = 0 then 0 else 1) h c (agX_refl h) (agM_refl h) wf (by simp only [tsz]; omega) h.2.1 (Or.inl ⟨rfl, fun _ _ z => by cases z⟩) rfl rfl r1 r2 (fun _ _ z => by cases z)
            (by obtain ⟨r1, r2, r3, r4, r5, r6, r7⟩ := mad_n (ρ := ρ) (k := nI q) (a := nI i) (b := nI j) (v := 0) (f := 0) (sz := 1 + ga ρ 7 i + ga ρ 7 j) (wg := if tab (two q (τ i) (τ j)) = 0 then 0 else 1) c; exact ⟨r1, r5, i, j, hi, hj, r3, r4, up_lt hi, up_lt hj⟩) e1 rfl (f_M_make N ρ (nI q) (nI i) (nI j) 0 0) (fun ok => m_make_two N hN h.2.2.2.1 c hi hj hq _ e2 ok)
          exact ⟨_, _, _, _, _, _, _, _, _, _, _, _, _, _, _, _, l', by rw [f1, bd_eq], by rw [if_pos (show nI q ≤ (10 : Int32) from nI_le (b := 10) hq (by decide)), f2, bd_eq], f3⟩
        · left
          rw [if_neg (show ¬ (n < 60 ∧ 1 + os tsz (some (τ i)) + os tsz (some (τ j)) ≤ 60) from fun z => d z.2), if_neg (show ¬ nI (1 + tsz (τ i) + tsz (τ j)) ≤ (60 : Int32) from nI_ge (a := 60) (by omega) (by omega))]
          exact ⟨-104, rfl, rfl⟩
      · left
        have : n = 60 := by omega
        rw [if_neg (show ¬ (n < 60 ∧ 1 + os tsz (some (τ i)) + os tsz (some (τ j)) ≤ 60) from fun z => c z.1), if_pos (show gi ρ 1 = (60 : Int32) by rw [h.2.2.2.1, this]; rfl)]
        exact ⟨-104, rfl, rfl⟩
    · rw [if_neg (fun z => c2 ((ex hj).mp z)), if_neg (fun z => c2 ((em hj).mp z))]
      exact Or.inl ⟨_, rfl, rfl⟩
  · rw [if_neg (fun z => c1 ((ex hi).mp z)), if_neg (fun z => c1 ((em hi).mp z))]
    exact Or.inl ⟨_, rfl, rfl⟩
theorem s_op1 (N : Nat) (hN : 60 < N) {σ ρ : St} {n m : Nat} {τ : Nat → Tr} (h : IvE σ ρ n m τ) {q i : Nat} (hq : q = 11 ∨ q = 12) (hi : i < n) (y : Int32) :
    (∃ r, f_Q_op_49 N σ (nI q) (nI i) y 1 = some (r, σ) ∧ f_M_op_27 N ρ (nI q) (nI i) y = some (r, ρ)) ∨ Grown σ ρ n m τ (f_Q_op_49 N σ (nI q) (nI i) y 1) (f_M_op_27 N ρ (nI q) (nI i) y) := by
  have h60 := h.1
  have hp := h.2.2.2.2.2.2.1
  have P9 : (9 ≤ q ∧ q ≤ 11) ↔ q = 11 := by omega
  rw [x_op49 (by omega), m_op27 (by omega)]
  unfold f_Q_op_85 f_M_op_59
  have n10 : ¬ nI q ≤ (10 : Int32) := nI_ge (a := 10) (b := q) (by omega) (by omega)
  simp only [x_tr (show i < 60 by omega), m_tr (show i < 60 by omega), bd_eq, ite_iff, m_two, if_neg n10, if_true]
  rw [if_neg (show ¬ (1 : Int32) = 0 by decide)]
  have ex : (TX σ i ↔ 9 ≤ q ∧ q ≤ 11) ↔ (tru (τ i) ↔ q = 11) := by rw [tX h hi, P9]
  have em : (TM ρ i ↔ 9 ≤ q ∧ q ≤ 11) ↔ (tru (τ i) ↔ q = 11) := by rw [tM h hi, P9]
  by_cases c1 : tru (τ i) ↔ q = 11
  · rw [if_pos (ex.mpr c1), if_pos (em.mpr c1)]
    unfold f_Q_op_121 f_Q_op_131 f_M_op_92 f_M_op_127 f_M_op_152
    have r1 : RF τ n (nI i) (some (τ i)) := ⟨i, hi, rfl, rfl⟩
    have s1 := (hp i hi).2.2.2.2.2.2.1
    have z1 := (hp i hi).2.2.2.1
    rw [if_neg (show ¬ (1 : Int32) = 0 by decide)]
    simp only [if_true, x_room (q := none) h r1 rfl, bd_eq, ite10, ckb_nI (show i < 60 by omega) (show 60 < 2 ^ 31 by decide), nI_clamp (show i < 2 ^ 31 by omega), s1, m_two, if_neg n10]
    rw [show (1 : Int32) + nI (tsz (τ i)) + 0 = nI (1 + tsz (τ i)) by rw [Int32.add_zero, show (1 : Int32) = nI 1 from rfl, nI_add]]
    by_cases c : n < 60
    · rw [if_neg (m_n60 h c)]
      by_cases d : 1 + tsz (τ i) ≤ 60
      · right
        rw [if_pos (show n < 60 ∧ 1 + os tsz (some (τ i)) + os tsz none ≤ 60 from ⟨c, d⟩), if_pos (show nI (1 + tsz (τ i)) ≤ (60 : Int32) from nI_le (b := 60) d (by decide))]
        have wf : twf (one q (τ i)) := ⟨by rcases hq with rfl | rfl
                                           · exact Or.inl ⟨rfl, c1.mpr rfl⟩
                                           · exact Or.inr ⟨rfl, fun z => by have := c1.mp z; omega⟩, (hp i hi).2.2.1⟩
        have w1 := (hp i hi).2.2.2.2.2.2.2.2.2.1
        have e1 : (1 : Int32) + ga ρ 7 i = nI (tsz (one q (τ i))) := by
          rw [s1, show (1 : Int32) = nI 1 from rfl, nI_add]; rfl
        have e2 : (if ga ρ 8 i = 0 then (0 : Int32) else 1) = if tab (one q (τ i)) = 0 then 0 else 1 := by
          rw [w1]
          show _ = (if tab (τ i) = 0 then (0 : Int32) else 1)
          by_cases y1 : tab (τ i) = 0 <;> simp [y1]
        obtain ⟨l, l', f1, f2, f3⟩ := grow N hN (t := one q (τ i)) (k := nI q) (v := 0) (a := nI i) (b := -1) (km := nI q) (am := nI i) (bm := 0) (vm := 0) (f := 0) (sz := 1 + ga ρ 7 i) (wg := if ga ρ 8 i = 0 then 0 else 1) h c (agX_refl h) (agM_refl h) wf (by simp only [tsz]; omega) h.2.1 (Or.inl ⟨rfl, fun _ _ z => by cases z⟩) rfl rfl r1 rfl (fun _ _ z => by cases z)
          (by obtain ⟨r1, r2, r3, r4, r5, r6, r7⟩ := mad_n (ρ := ρ) (k := nI q) (a := nI i) (b := 0) (v := 0) (f := 0) (sz := 1 + ga ρ 7 i) (wg := if ga ρ 8 i = 0 then 0 else 1) c; exact ⟨r1, r5, i, hi, r3, up_lt hi⟩) e1 e2 (f_M_make N ρ (nI q) (nI i) 0 0 0) (fun ok => m_make_one N hN h.2.2.2.1 c hi (by rcases hq with rfl | rfl; exact Or.inl rfl; exact Or.inr rfl) ok)
        exact ⟨_, _, _, _, _, _, _, _, _, _, _, _, _, _, _, _, l', by rw [f1, bd_eq], by rw [f2, bd_eq], f3⟩
      · left
        rw [if_neg (show ¬ (n < 60 ∧ 1 + os tsz (some (τ i)) + os tsz none ≤ 60) from fun z => d z.2), if_neg (show ¬ nI (1 + tsz (τ i)) ≤ (60 : Int32) from nI_ge (a := 60) (by omega) (by omega))]
        exact ⟨-104, rfl, rfl⟩
    · left
      have : n = 60 := by omega
      rw [if_neg (show ¬ (n < 60 ∧ 1 + os tsz (some (τ i)) + os tsz none ≤ 60) from fun z => c z.1), if_pos (show gi ρ 1 = (60 : Int32) by rw [h.2.2.2.1, this]; rfl)]
      exact ⟨-104, rfl, rfl⟩
  · rw [if_neg (fun z => c1 (ex.mp z)), if_neg (fun z => c1 (em.mp z))]
    exact Or.inl ⟨_, rfl, rfl⟩
theorem s_op (N : Nat) (hN : 60 < N) {σ ρ : St} {n m : Nat} {τ : Nat → Tr} (h : IvE σ ρ n m τ) (k x y : Int32) :
    (∃ r, f_Q_op N σ k x y = some (r, σ) ∧ f_M_op N ρ k x y = some (r, ρ)) ∨ Grown σ ρ n m τ (f_Q_op N σ k x y) (f_M_op N ρ k x y) := by
  have h60 := h.1
  have hE := ivE_ex h
  unfold f_Q_op f_M_op f_Q_op_12 f_Q_op_17 f_M_isOne
  rcases ex_at hE x with ⟨a1, a2⟩ | ⟨i, hi, rfl⟩
  · rw [x_has_no a1, m_has_no a2, bd_eq, bd_eq]
    left
    refine ⟨-101, ?_, ?_⟩
    · simp only [if_true, ite_self]
    · rw [bd_eq, if_pos rfl]
  · rw [x_has_yes h.2.2.1 hi h60, m_has_yes h.2.2.2.1 hi h60, bd_eq, bd_eq]
    simp only [show ¬ (1 : Int32) = 0 by decide, if_false, if_true]
    rcases pk_ix k (n := 13) (by decide) with c | c | ⟨q, hq, rfl⟩
    · have o11 : ¬ k = 11 := out_n (n := 13) (by decide) (Or.inl c) 11 (by decide)
      have o12 : ¬ k = 12 := out_n (n := 13) (by decide) (Or.inl c) 12 (by decide)
      simp only [if_neg o11, if_neg o12, bd_eq, if_true]
      left
      rcases ex_at hE y with ⟨a1, a2⟩ | ⟨j, hj, rfl⟩
      · rw [x_has_no a1, m_has_no a2, bd_eq, bd_eq, if_pos rfl, if_pos rfl]
        exact ⟨-101, rfl, rfl⟩
      · rw [x_has_yes h.2.2.1 hj h60, m_has_yes h.2.2.2.1 hj h60, bd_eq, bd_eq, if_neg (by decide), if_neg (by decide)]
        unfold f_Q_op_49 f_M_op_27
        rw [if_pos c, m_within32 N ρ k 0 12 rfl rfl, bd_eq, ite10, if_neg (show ¬ ((0 : Int32) ≤ k ∧ k ≤ 12) from fun z => absurd c (Int32.not_lt.mpr z.1))]
        exact ⟨-102, rfl, rfl⟩
    · have o11 : ¬ k = 11 := out_n (n := 13) (by decide) (Or.inr c) 11 (by decide)
      have o12 : ¬ k = 12 := out_n (n := 13) (by decide) (Or.inr c) 12 (by decide)
      simp only [if_neg o11, if_neg o12, bd_eq, if_true]
      left
      rcases ex_at hE y with ⟨a1, a2⟩ | ⟨j, hj, rfl⟩
      · rw [x_has_no a1, m_has_no a2, bd_eq, bd_eq, if_pos rfl, if_pos rfl]
        exact ⟨-101, rfl, rfl⟩
      · rw [x_has_yes h.2.2.1 hj h60, m_has_yes h.2.2.2.1 hj h60, bd_eq, bd_eq, if_neg (by decide), if_neg (by decide)]
        unfold f_Q_op_49 f_M_op_27
        have c' : (13 : Int32) ≤ k := c
        have c0 : ¬ k < 0 := fun z => by simp only [i32_le, i32_lt] at *; have : (13 : Int32).toInt = 13 := by decide
                                         have : (0 : Int32).toInt = 0 := by decide
                                         omega
        have c12 : ¬ k ≤ 12 := fun z => by simp only [i32_le] at *; have : (13 : Int32).toInt = 13 := by decide
                                           have : (12 : Int32).toInt = 12 := by decide
                                           omega
        rw [if_neg c0, if_neg c12, m_within32 N ρ k 0 12 rfl rfl, bd_eq, ite10, if_neg (show ¬ ((0 : Int32) ≤ k ∧ k ≤ 12) from fun z => c12 z.2)]
        exact ⟨-102, rfl, rfl⟩
    · by_cases q11 : q = 11 ∨ q = 12
      · have := s_op1 N hN h q11 hi y
        rcases q11 with rfl | rfl
        · simp (decide := true) only [if_true, if_false, bd_eq]
          exact this
        · simp (decide := true) only [if_true, if_false, bd_eq]
          exact this
      · have o11 : ¬ nI q = 11 := fun z => by have := (nI_eq (b := 11) (by omega) (by decide)).mp z; omega
        have o12 : ¬ nI q = 12 := fun z => by have := (nI_eq (b := 12) (by omega) (by decide)).mp z; omega
        simp only [if_neg o11, if_neg o12, bd_eq, if_true]
        rcases ex_at hE y with ⟨a1, a2⟩ | ⟨j, hj, rfl⟩
        · rw [x_has_no a1, m_has_no a2, bd_eq, bd_eq, if_pos rfl, if_pos rfl]
          exact Or.inl ⟨-101, rfl, rfl⟩
        · rw [x_has_yes h.2.2.1 hj h60, m_has_yes h.2.2.2.1 hj h60, bd_eq, bd_eq, if_neg (by decide), if_neg (by decide)]
          exact s_op2 N hN h (by omega) hi hj

