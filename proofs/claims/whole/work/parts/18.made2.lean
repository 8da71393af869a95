/-! constant, column, op, aggregate: both sides (own rows) -/
def Grown (σ0 ρ0 : St) (n m' : Nat) (τ : Nat → Tr) (oX oM : Option (Int32 × St)) : Prop :=
  ∃ (t : Tr) (k : Int32) (v : Int64) (a b p cb ab l km am bm : Int32) (vm : Int64) (f sz wg : Int32) (l' : Nat), oX = some (nI n, xadd σ0 n k v a b p cb ab l) ∧ oM = some (nI n, madd ρ0 n km am bm vm f sz wg l') ∧ IvE (xadd σ0 n k v a b p cb ab l) (madd ρ0 n km am bm vm f sz wg l') (n + 1) m' (up τ n t)
theorem s_constant' (N : Nat) (hN : 60 < N) {σ ρ : St} {n m : Nat} {τ : Nat → Tr} (h : IvE σ ρ n m τ) (x : Int64) (f : Int32) (hf : f = 0 ∨ f = 1) :
    (∃ r, f_Q_constant N σ x f = some (r, σ) ∧ f_M_constant N ρ x f = some (r, ρ)) ∨ Grown σ ρ n m τ (f_Q_constant N σ x f) (f_M_constant N ρ x f) := by
  rcases s_constant N hN h x f hf with q | ⟨t, k, v, cb, ab, l, l', q1, q2, q3⟩
  · exact Or.inl q
  · exact Or.inr ⟨t, k, v, _, _, _, cb, ab, l, _, _, _, _, _, _, _, l', q1, q2, q3⟩
theorem s_column (N : Nat) (hN : 60 < N) {σ ρ : St} {n m : Nat} {τ : Nat → Tr} (h : IvE σ ρ n m τ) (x y : Int32) :
    (∃ r, f_Q_column N σ x y = some (r, σ) ∧ f_M_column N ρ x y = some (r, ρ)) ∨ Grown σ ρ n m τ (f_Q_column N σ x y) (f_M_column N ρ x y) := by
  unfold f_Q_column f_M_column
  rw [m_within32 N ρ x 0 2 rfl rfl, bd_eq, m_within32 N ρ y 0 3 rfl rfl, bd_eq, ite10, ite10, h.2.2.2.1]
  rcases pk_ix x (n := 3) (by decide) with c | c | ⟨i, hi, rfl⟩
  · rw [if_pos c, if_neg (show ¬ ((0 : Int32) ≤ x ∧ x ≤ 2) from fun z => absurd c (Int32.not_lt.mpr z.1))]
    exact Or.inl ⟨_, rfl, rfl⟩
  · have c' : (3 : Int32) ≤ x := c
    have c0 : ¬ x < 0 := fun z => by simp only [i32_le, i32_lt] at *; have : (3 : Int32).toInt = 3 := by decide
                                     have : (0 : Int32).toInt = 0 := by decide
                                     omega
    rw [if_neg c0, if_pos c', if_neg (show ¬ ((0 : Int32) ≤ x ∧ x ≤ 2) from fun z => by
      have z2 := z.2
      simp only [i32_le] at c' z2
      have : (3 : Int32).toInt = 3 := by decide
      have : (2 : Int32).toInt = 2 := by decide
      omega)]
    exact Or.inl ⟨_, rfl, rfl⟩
  · rw [if_neg (show ¬ nI i < 0 from nI_pos (by omega)), if_neg (show ¬ (3 : Int32) ≤ nI i from nI_ge (b := 3) hi (by decide)), if_pos (show (0 : Int32) ≤ nI i ∧ nI i ≤ 2 from ⟨nI_pos' (by omega), nI_le (b := 2) (by omega) (by decide)⟩)]
    rcases pk_ix y (n := 4) (by decide) with c | c | ⟨j, hj, rfl⟩
    · rw [if_pos c, if_neg (show ¬ ((0 : Int32) ≤ y ∧ y ≤ 3) from fun z => absurd c (Int32.not_lt.mpr z.1))]
      exact Or.inl ⟨_, rfl, rfl⟩
    · have c' : (4 : Int32) ≤ y := c
      have c0 : ¬ y < 0 := fun z => by simp only [i32_le, i32_lt] at *; have : (4 : Int32).toInt = 4 := by decide
                                       have : (0 : Int32).toInt = 0 := by decide
                                       omega
      rw [if_neg c0, if_neg (show ¬ y < (4 : Int32) from Int32.not_lt.mpr c'), if_neg (show ¬ ((0 : Int32) ≤ y ∧ y ≤ 3) from fun z => by
        have z2 := z.2
        simp only [i32_le] at c' z2
        have : (4 : Int32).toInt = 4 := by decide
        have : (3 : Int32).toInt = 3 := by decide
        omega)]
      exact Or.inl ⟨_, rfl, rfl⟩
    · rw [if_neg (show ¬ nI j < 0 from nI_pos (by omega)), if_pos (show nI j < (4 : Int32) from nI_lt (b := 4) hj (by decide)), if_pos (show (0 : Int32) ≤ nI j ∧ nI j ≤ 3 from ⟨nI_pos' (by omega), nI_le (b := 3) (by omega) (by decide)⟩), x_room (o := none) (q := none) h rfl rfl, bd_eq, ite10]
      by_cases c : n < 60
      · right
        rw [if_pos (show n < 60 ∧ 1 + os tsz none + os tsz none ≤ 60 from ⟨c, by simp [os]⟩), if_neg (show ¬ nI n = (60 : Int32) from fun z => by have := (nI_eq (b := 60) (by omega) (by decide)).mp z; omega)]
        have ev : nI i * 4 + nI j = nI (4 * i + j) := by
          rw [show (4 : Int32) = nI 4 from rfl, pk_mul, nI_add, Nat.mul_comm]
        rw [ev]
        have wf : twf (.var (4 * i + j)) := show 4 * i + j < 12 by omega
        obtain ⟨l, l', f1, f2, f3⟩ := grow N hN (t := .var (4 * i + j)) (k := 15) (v := (nI (4 * i + j)).toInt64) (a := -1) (b := -1) (km := 21) (am := nI i) (bm := nI j) (vm := 0) (f := 0) (sz := 1) (wg := 0) h c (agX_refl h) (agM_refl h) wf (by simp [tsz]) h.2.1 (Or.inl ⟨rfl, fun _ _ z => by cases z⟩) rfl rfl rfl rfl (fun _ _ z => by cases z)
          (by obtain ⟨r1, r2, r3, r4, r5, r6, r7⟩ := mad_n (ρ := ρ) (k := 21) (a := nI i) (b := nI j) (v := 0) (f := 0) (sz := 1) (wg := 0) c; exact ⟨r1, r5, by rw [r3, show (4 * i + j) / 4 = i by omega], by rw [r4, show (4 * i + j) % 4 = j by omega]⟩) (by simp [tsz]; rfl) (by simp [tab]) (f_M_make N ρ 21 (nI i) (nI j) 0 0) (fun ok => m_make_leaf N hN h.2.2.2.1 c (Or.inr rfl) ok)
        exact ⟨_, _, _, _, _, _, _, _, _, _, _, _, _, _, _, _, l', by rw [f1, bd_eq], by rw [f2, bd_eq], f3⟩
      · left
        have : n = 60 := by have := h.1; omega
        rw [if_neg (show ¬ (n < 60 ∧ 1 + os tsz none + os tsz none ≤ 60) from fun z => c z.1), if_pos (show nI n = (60 : Int32) by rw [this]; rfl)]
        exact ⟨-104, rfl, rfl⟩
theorem x_tr {N : Nat} {σ : St} {j : Nat} (hj : j < 60) : f_E_isTruth N σ (nI j) = some (if TX σ j then 1 else 0, σ) := by
  by_cases c : TX σ j
  · rw [x_tr_yes hj c, if_pos c]
  · rw [x_tr_no hj c, if_neg c]
theorem m_tr {N : Nat} {σ : St} {j : Nat} (hj : j < 60) : f_M_isTruth N σ (nI j) = some (if TM σ j then 1 else 0, σ) := by
  by_cases c : TM σ j
  · rw [m_tr_yes hj c, if_pos c]
  · rw [m_tr_no hj c, if_neg c]
theorem ite_iff {α : Type} {C P : Prop} [Decidable C] [Decidable P] {A B : α} : (if (if C then (1 : Int32) else 0) = (if P then 1 else 0) then A else B) = if C ↔ P then A else B := by
  by_cases c : C <;> by_cases p : P <;> simp [c, p]
theorem x_op49 {N : Nat} {σ : St} {q : Nat} (hq : q < 13) (x2 x3 x4 : Int32) : f_Q_op_49 N σ (nI q) x2 x3 x4 = f_Q_op_85 N σ (nI q) x2 x3 x4 (if 9 ≤ q ∧ q ≤ 11 then 1 else 0) := by
  have : q = 0 ∨ q = 1 ∨ q = 2 ∨ q = 3 ∨ q = 4 ∨ q = 5 ∨ q = 6 ∨ q = 7 ∨ q = 8 ∨ q = 9 ∨ q = 10 ∨ q = 11 ∨ q = 12 := by omega
  unfold f_Q_op_49 f_Q_op_80
  rcases this with rfl | rfl | rfl | rfl | rfl | rfl | rfl | rfl | rfl | rfl | rfl | rfl | rfl <;> simp (decide := true) only [if_true, if_false]
theorem m_op27 {N : Nat} {ρ : St} {q : Nat} (hq : q < 13) (x2 x3 : Int32) : f_M_op_27 N ρ (nI q) x2 x3 = f_M_op_59 N ρ (nI q) x2 x3 (if 9 ≤ q ∧ q ≤ 11 then 1 else 0) := by
  have : q = 0 ∨ q = 1 ∨ q = 2 ∨ q = 3 ∨ q = 4 ∨ q = 5 ∨ q = 6 ∨ q = 7 ∨ q = 8 ∨ q = 9 ∨ q = 10 ∨ q = 11 ∨ q = 12 := by omega
  unfold f_M_op_27 f_M_op_58
  rw [m_within32 N ρ (nI q) 0 12 rfl rfl, bd_eq]
  rcases this with rfl | rfl | rfl | rfl | rfl | rfl | rfl | rfl | rfl | rfl | rfl | rfl | rfl <;> simp (decide := true) only [if_true, if_false]

