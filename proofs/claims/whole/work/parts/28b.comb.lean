/-! M combines two values (own rows) -/
def Cme (s1 : St) (p : Nat) (r : Rs) (o : Option (Unit × St)) : Prop := ∃ s x fl, o = some ((), gvs s p x fl) ∧ (match r with
  | .ok w => s = s1 ∧ ((w = none ∧ fl = 1) ∨ (w = some x ∧ fl = 0))
  | .error er => s = si s1 14 er)
theorem t012 {u : Int64} (h : u = 0 ∨ u = 1 ∨ u = 2) : (u = 0 ∨ u = 1 ∨ u = 2) := h
theorem cmb_none {k : Nat} {a b : Option Int64} (c9 : ¬ k = 9) (c10 : ¬ k = 10) (hn : a = none ∨ b = none) : cmb k a b = if k < 5 then .ok none else .ok (some 2) := by
  unfold cmb
  rw [if_neg c9, if_neg c10]
  cases a with
  | none => cases b <;> rfl
  | some u =>
    cases b with
    | none => rfl
    | some v => rcases hn with h | h <;> cases h
theorem cmb_some {k : Nat} {u v : Int64} (c9 : ¬ k = 9) (c10 : ¬ k = 10) : cmb k (some u) (some v) = if k < 5 then rk k u v else .ok (some (cp k u v)) := by
  unfold cmb
  rw [if_neg c9, if_neg c10]
theorem m_c64 {N : Nat} {s1 : St} {k p : Nat} {u v : Int64} {t0 : Int32} {a b : Option Int64} (hk : k ≤ 10) (hp : p < 64) (ht : gi s1 20 = nI p)
    (h9 : 9 ≤ k → (u = 0 ∨ u = 1 ∨ u = 2) ∧ (v = 0 ∨ v = 1 ∨ v = 2)) (h5 : k < 5 → t0 = 0 → okF u ∧ okF v)
    (hab : (t0 = 0 ∧ a = some u ∧ b = some v) ∨ (t0 = 1 ∧ k < 9 ∧ (a = none ∨ b = none))) : Cme s1 p (cmb k a b) (f_M_combine_64 N s1 (nI k) u v t0) := by
  have give : ∀ x fl, f_M_give N s1 x fl = some ((), gvs s1 p x fl) := fun x fl => m_give hp ht
  have n9 : k ≠ 9 → ¬ nI k = (9 : Int32) := fun z => k_ne (j := 9) (by omega) (by decide) z
  have n10 : k ≠ 10 → ¬ nI k = (10 : Int32) := fun z => k_ne (j := 10) (by omega) (by decide) z
  unfold f_M_combine_64
  simp only [cmp_eq]
  by_cases c9 : k = 9
  · subst c9
    obtain ⟨-, rfl, rfl⟩ : t0 = 0 ∧ a = some u ∧ b = some v := by
      rcases hab with h | h
      · exact h
      · omega
    rw [if_pos (show nI 9 = 9 from rfl)]
    unfold f_M_combine_86 f_M_combine_107 f_M_combine_110
    simp only [give, bd_eq]
    obtain ⟨hu, hv⟩ := h9 (Nat.le_refl _)
    rcases hu with rfl | rfl | rfl <;> rcases hv with rfl | rfl | rfl <;> exact ⟨s1, _, _, rfl, rfl, Or.inr ⟨rfl, rfl⟩⟩
  · rw [if_neg (n9 c9)]
    by_cases c10 : k = 10
    · subst c10
      obtain ⟨-, rfl, rfl⟩ : t0 = 0 ∧ a = some u ∧ b = some v := by
        rcases hab with h | h
        · exact h
        · omega
      rw [if_pos (show nI 10 = 10 from rfl)]
      unfold f_M_combine_137 f_M_combine_158 f_M_combine_161
      simp only [give, bd_eq]
      obtain ⟨hu, hv⟩ := h9 (by omega)
      rcases hu with rfl | rfl | rfl <;> rcases hv with rfl | rfl | rfl <;> exact ⟨s1, _, _, rfl, rfl, Or.inr ⟨rfl, rfl⟩⟩
    · rw [if_neg (n10 c10)]
      by_cases c5 : k < 5
      · rw [if_pos (show nI k < (5 : Int32) from nI_lt (b := 5) c5 (by decide))]
        rcases hab with ⟨rfl, rfl, rfl⟩ | ⟨rfl, -, hn⟩
        · rw [if_pos rfl, cmb_some c9 c10, if_pos c5]
          obtain ⟨o1, o2⟩ := h5 c5 rfl
          have := m_reckon (N := N) (ρ := s1) c5 o1 o2
          unfold f_M_combine_291
          cases q : rk k u v with
          | error er =>
            rw [q] at this
            obtain ⟨z, e⟩ := this
            rw [e, bd_eq, m_give (ρ := si s1 14 er) hp ht, bd_eq]
            exact ⟨_, _, _, rfl, rfl⟩
          | ok w =>
            rw [q] at this
            cases w with
            | none => exact absurd this (fun z => z)
            | some w =>
              have this : f_M_reckon N s1 (nI k) u v = some (w, s1) := this
              rw [this, bd_eq, give, bd_eq]
              exact ⟨_, _, _, rfl, rfl, Or.inr ⟨rfl, rfl⟩⟩
        · rw [if_neg (show ¬ (1 : Int32) = 0 by decide)]
          unfold f_M_combine_291
          rw [give, bd_eq]
          rw [cmb_none c9 c10 hn, if_pos c5]
          exact ⟨_, _, _, rfl, rfl, Or.inl ⟨rfl, rfl⟩⟩
      · rw [if_neg (show ¬ nI k < (5 : Int32) from nI_nlt (b := 5) (by omega) (by omega))]
        rcases hab with ⟨rfl, rfl, rfl⟩ | ⟨rfl, -, hn⟩
        · rw [cmb_some c9 c10, if_neg c5]
          unfold f_M_combine_247 f_M_combine_266 f_M_truthOf
          simp only [give, bd_eq, if_true, show ¬ (1 : Int32) = 0 by decide, if_false, cmp_ge, cmp_gt]
          unfold cp
          have : k = 5 ∨ k = 6 ∨ k = 7 ∨ k = 8 := by omega
          rcases this with rfl | rfl | rfl | rfl <;> simp (decide := true) only [if_true, if_false]
          · by_cases c : u = v
            · rw [if_pos c, if_pos c]; exact ⟨_, _, _, rfl, rfl, Or.inr ⟨rfl, rfl⟩⟩
            · rw [if_neg c, if_neg c]; exact ⟨_, _, _, rfl, rfl, Or.inr ⟨rfl, rfl⟩⟩
          · by_cases c : u = v
            · rw [if_pos c, if_pos c]; exact ⟨_, _, _, rfl, rfl, Or.inr ⟨rfl, rfl⟩⟩
            · rw [if_neg c, if_neg c]; exact ⟨_, _, _, rfl, rfl, Or.inr ⟨rfl, rfl⟩⟩
          · by_cases c : u < v
            · rw [if_pos c, if_neg (show ¬ v ≤ u by rw [i64_le]; rw [i64_lt] at c; omega)]; exact ⟨_, _, _, rfl, rfl, Or.inr ⟨rfl, rfl⟩⟩
            · rw [if_neg c, if_pos (show v ≤ u by rw [i64_le]; rw [i64_lt] at c; omega)]; exact ⟨_, _, _, rfl, rfl, Or.inr ⟨rfl, rfl⟩⟩
          · by_cases c : u ≤ v
            · rw [if_pos c, if_neg (show ¬ v < u by rw [i64_lt]; rw [i64_le] at c; omega)]; exact ⟨_, _, _, rfl, rfl, Or.inr ⟨rfl, rfl⟩⟩
            · rw [if_neg c, if_pos (show v < u by rw [i64_lt]; rw [i64_le] at c; omega)]; exact ⟨_, _, _, rfl, rfl, Or.inr ⟨rfl, rfl⟩⟩
        · rw [cmb_none c9 c10 hn, if_neg c5]
          have e2 : ∀ t : Int32, f_M_combine_247 N s1 1 t = some ((), gvs s1 p 2 0) := by
            intro t
            unfold f_M_combine_247 f_M_combine_266
            rw [if_neg (show ¬ (1 : Int32) = 0 by decide), give, bd_eq]
          simp only [e2, ite_self]
          exact ⟨_, _, _, rfl, rfl, Or.inr ⟨rfl, rfl⟩⟩
theorem nI_sub2 (p : Nat) : nI (p + 2) - 2 = nI p := by
  rw [← nI_add p 2]
  exact Int32.add_sub_cancel _ _
/-- M's combine: the two on top become one -/
theorem m_combine {N : Nat} {ρ : St} {k p : Nat} {a b : Option Int64} (hk : k ≤ 10) (hp : p + 1 < 64) (ht : gi ρ 20 = nI (p + 2)) (ga' : Gv ρ p a) (gb' : Gv ρ (p + 1) b)
    (h9 : 9 ≤ k → (a = some 0 ∨ a = some 1 ∨ a = some 2) ∧ (b = some 0 ∨ b = some 1 ∨ b = some 2)) (h5 : k < 5 → (∀ z, a = some z → okF z) ∧ (∀ z, b = some z → okF z)) : Cme (si ρ 20 (nI p)) p (cmb k a b) (f_M_combine N ρ (nI k)) := by
  unfold f_M_combine
  rw [ht, nI_sub2, nm_eq]
  have ht' : gi (si ρ 20 (nI p)) 20 = nI p := rfl
  simp only [ht', nI_1, ckb_nI (show p < 64 by omega) (show 64 < 2 ^ 31 by decide), ckb_nI hp (show 64 < 2 ^ 31 by decide), nI_clamp (show p < 2 ^ 31 by omega), nI_clamp (show p + 1 < 2 ^ 31 by omega)]
  have ea : ga (si ρ 20 (nI p)) 26 = ga ρ 26 := rfl
  have eb : gb (si ρ 20 (nI p)) 6 = gb ρ 6 := rfl
  rw [ea, eb]
  unfold f_M_combine_59
  cases a with
  | none =>
    have k9 : k < 9 := by
      rcases Nat.lt_or_ge k 9 with z | z
      · exact z
      · rcases (h9 z).1 with q | q | q <;> cases q
    rw [if_neg (show ¬ ga ρ 26 p = 0 by rw [show ga ρ 26 p = 1 from ga']; decide)]
    exact m_c64 hk (by omega) ht' (fun z => by omega) (fun _ z => absurd z (by decide)) (Or.inr ⟨rfl, k9, Or.inl rfl⟩)
  | some u =>
    rw [if_pos ga'.1]
    cases b with
    | none =>
      have k9 : k < 9 := by
        rcases Nat.lt_or_ge k 9 with z | z
        · exact z
        · rcases (h9 z).2 with q | q | q <;> cases q
      rw [if_neg (show ¬ ga ρ 26 (p + 1) = 0 by rw [show ga ρ 26 (p + 1) = 1 from gb']; decide)]
      exact m_c64 hk (by omega) ht' (fun z => by omega) (fun _ z => absurd z (by decide)) (Or.inr ⟨rfl, k9, Or.inr rfl⟩)
    | some v =>
      rw [if_pos gb'.1, ga'.2, gb'.2]
      refine m_c64 hk (by omega) ht' (fun z => ?_) (fun z _ => ⟨(h5 z).1 u rfl, (h5 z).2 v rfl⟩) (Or.inl ⟨rfl, rfl, rfl⟩)
      obtain ⟨q1, q2⟩ := h9 z
      refine ⟨?_, ?_⟩
      · rcases q1 with q | q | q <;> cases q <;> simp
      · rcases q2 with q | q | q <;> cases q <;> simp

