/-! M's check of columns and of aggregates (own rows) -/
theorem cko_mo {ρ0 ρ : St} {w : Nat → Nat} {o : Option Tr} {lv : Nat} (mo : MO ρ0 ρ) : CKo ρ w o lv ↔ CKo ρ0 w o lv := by
  have e2 : ga ρ 11 = ga ρ0 11 := mo.2.1 _ (by decide) (by decide)
  unfold CKo Pc tb
  rw [e2]
theorem m_hasc (N : Nat) (hN : 100 < N) {σ ρ : St} {nt n m ns ng ni no lst j : Nat} {w h : Nat → Nat} {τ : Nat → Tr} (d : Dat σ ρ nt n m ns ng ni no w h τ) (hl : lst < ns) (hj : j < n) : ∃ r ρ', f_M_hasColumns N ρ (nI j) (nI lst) = some (r, ρ') ∧ MO ρ ρ' ∧ (r = 0 ∨ r = 1) ∧ (r = 1 ↔ CKo ρ w (oo τ (nI j)) (lst + 1)) := by
  have hp := d.2.1.2.2.2.2.2.2.1 j hj
  have n60 := d.2.1.1
  have e0 : f_M_hasColumns N ρ (nI j) (nI lst) = f_M_hasColumns_12 N N (phs (si ρ 19 0) 0 (nI j)) (nI lst) 1 := by
    unfold f_M_hasColumns
    rw [nm_eq, m_push (k := 0) (by decide) (show gi (si ρ 19 0) 19 = nI 0 from rfl), bd_eq]
  rw [e0]
  have mo1 : MO ρ (phs (si ρ 19 0) 0 (nI j)) := mo_open.trans mo_phs
  obtain ⟨r, ρ', z1, z2, z3, z4⟩ := m_hc N d hl 60 N [j] (phs (si ρ 19 0) 0 (nI j)) 1 mo1 (fun e q => by simp only [List.mem_singleton] at q; omega) (Sk_push (l := []) (by decide) trivial) rfl (by simp only [szs]; have := hp.2.2.2.1; omega) (Nat.le_refl _) (by omega) (Or.inr rfl)
  refine ⟨r, ρ', z1, z2, z3, z4.trans ?_⟩
  rw [oo_j (by omega)]
  simp only [true_and, List.mem_singleton, forall_eq]
  exact tall_iff hp.2.2.1
theorem m_c156 (N : Nat) (hN : 100 < N) {σ ρ0 : St} {nt n m ns ng ni no : Nat} {w h : Nat → Nat} {τ : Nat → Tr} (d : Dat σ ρ0 nt n m ns ng ni no w h τ) (h0 : 0 < ns) : ∀ (q i fu : Nat) (ρ : St) (x : Int32), MO ρ0 ρ → i + q = ni → q < fu → (x = 0 ∨ x = 1) → ∃ r ρ', f_M_areColumnsRight_156 N fu ρ x (nI i) = some (r, ρ') ∧ MO ρ0 ρ' ∧ (r = 0 ∨ r = 1) ∧ (r = 1 ↔ x = 1 ∧ ∀ k, i ≤ k → k < ni → CKo ρ0 w (oo τ (ga σ 17 k)) ns) := by
  intro q
  induction q with
  | zero =>
    intro i fu ρ x mo hi hfu hx
    obtain ⟨fu, rfl⟩ : ∃ q, fu = q + 1 := ⟨fu - 1, by omega⟩
    have e0 : f_M_areColumnsRight_156 N (fu + 1) ρ x (nI i) = f_M_areColumnsRight_156_b N (f_M_areColumnsRight_156 N fu) ρ x (nI i) := rfl
    obtain ⟨hT, hE, hQ⟩ := dat_mo d mo
    have i6 := hQ.2.2.1.1
    rw [e0]
    unfold f_M_areColumnsRight_156_b
    rw [hQ.2.2.1.2.2.1, if_pos (nI_le (by omega) (by omega)), ckt_b hx]
    exact ⟨x, ρ, rfl, mo, hx, fun z => ⟨z, fun k h1 h2 => by omega⟩, fun z => z.1⟩
  | succ q ih =>
    intro i fu ρ x mo hi hfu hx
    obtain ⟨fu, rfl⟩ : ∃ q, fu = q + 1 := ⟨fu - 1, by omega⟩
    have e0 : f_M_areColumnsRight_156 N (fu + 1) ρ x (nI i) = f_M_areColumnsRight_156_b N (f_M_areColumnsRight_156 N fu) ρ x (nI i) := rfl
    have dd := dat_mo d mo
    obtain ⟨hT, hE, hQ⟩ := id dd
    have i6 := hQ.2.2.1.1
    have ns3 := hQ.1.1
    rw [e0]
    unfold f_M_areColumnsRight_156_b
    rw [hQ.2.2.1.2.2.1, if_neg (nI_ge (by omega) (by omega)), nI_1]
    by_cases c : x = 0
    · rw [if_pos c]
      obtain ⟨r, ρ', z1, z2, z3, z4⟩ := ih (i + 1) fu ρ 0 mo (by omega) (by omega) (Or.inl rfl)
      exact ⟨r, ρ', z1, z2, z3, z4.trans ⟨fun z => absurd z.1 (by decide), fun z => absurd z.1 (by rw [c]; decide)⟩⟩
    · have x1 : x = 1 := by rcases hx with z | z; exact absurd z c; exact z
      obtain ⟨j, j1, j2, j3, j4⟩ := hQ.2.2.1.2.2.2 i (by omega)
      obtain ⟨ls, rfl⟩ : ∃ q, ns = q + 1 := ⟨ns - 1, by omega⟩
      rw [if_neg c, ckb_nI (show i < 6 by omega) (by decide), nI_clamp (show i < 2 ^ 31 by omega), j3, hQ.1.2.2.1, nI_pred]
      obtain ⟨r1, ρ1, y1, y2, y3, y4⟩ := m_hasc N hN dd (show ls < ls + 1 by omega) j1
      rw [y1, bd_eq]
      rw [cko_mo mo, ← j2] at y4
      by_cases c1 : r1 = 0
      · rw [if_pos c1]
        obtain ⟨r, ρ', z1, z2, z3, z4⟩ := ih (i + 1) fu ρ1 0 (mo.trans y2) (by omega) (by omega) (Or.inl rfl)
        refine ⟨r, ρ', z1, z2, z3, z4.trans ⟨fun z => absurd z.1 (by decide), fun z => ?_⟩⟩
        have := y4.mpr (z.2 i (Nat.le_refl _) (by omega))
        rw [c1] at this
        exact absurd this (by decide)
      · have r11 : r1 = 1 := by rcases y3 with z | z; exact absurd z c1; exact z
        rw [if_neg c1]
        obtain ⟨r, ρ', z1, z2, z3, z4⟩ := ih (i + 1) fu ρ1 1 (mo.trans y2) (by omega) (by omega) (Or.inr rfl)
        refine ⟨r, ρ', z1, z2, z3, z4.trans ⟨fun z => ⟨x1, fun k h1 h2 => ?_⟩, fun z => ⟨rfl, fun k h1 h2 => z.2 k (by omega) h2⟩⟩⟩
        by_cases e : k = i
        · subst e; exact y4.mp r11
        · exact z.2 k (by omega) h2
theorem m_c111 (N : Nat) (hN : 100 < N) {σ ρ0 : St} {nt n m ns ng ni no : Nat} {w h : Nat → Nat} {τ : Nat → Tr} (d : Dat σ ρ0 nt n m ns ng ni no w h τ) (h0 : 0 < ns) : ∀ (q i fu : Nat) (ρ : St) (x : Int32), MO ρ0 ρ → i + q = ng → q < fu → (x = 0 ∨ x = 1) → ∃ r ρ', f_M_areColumnsRight_111 N fu ρ x (nI i) = some (r, ρ') ∧ MO ρ0 ρ' ∧ (r = 0 ∨ r = 1) ∧ (r = 1 ↔ x = 1 ∧ (∀ k, i ≤ k → k < ng → CKo ρ0 w (oo τ (ga σ 16 k)) ns) ∧ ∀ k, k < ni → CKo ρ0 w (oo τ (ga σ 17 k)) ns) := by
  intro q
  induction q with
  | zero =>
    intro i fu ρ x mo hi hfu hx
    obtain ⟨fu, rfl⟩ : ∃ q, fu = q + 1 := ⟨fu - 1, by omega⟩
    have e0 : f_M_areColumnsRight_111 N (fu + 1) ρ x (nI i) = f_M_areColumnsRight_111_b N (f_M_areColumnsRight_111 N fu) ρ x (nI i) := rfl
    obtain ⟨hT, hE, hQ⟩ := dat_mo d mo
    have g4 := hQ.2.1.1
    have i6 := hQ.2.2.1.1
    rw [e0]
    unfold f_M_areColumnsRight_111_b
    rw [hQ.2.1.2.2.1, if_pos (nI_le (by omega) (by omega))]
    obtain ⟨r, ρ', z1, z2, z3, z4⟩ := m_c156 N hN d h0 ni 0 N ρ x mo (by omega) (by omega) hx
    exact ⟨r, ρ', z1, z2, z3, z4.trans ⟨fun z => ⟨z.1, fun k h1 h2 => by omega, fun k hk => z.2 k (by omega) hk⟩, fun z => ⟨z.1, fun k _ hk => z.2.2 k hk⟩⟩⟩
  | succ q ih =>
    intro i fu ρ x mo hi hfu hx
    obtain ⟨fu, rfl⟩ : ∃ q, fu = q + 1 := ⟨fu - 1, by omega⟩
    have e0 : f_M_areColumnsRight_111 N (fu + 1) ρ x (nI i) = f_M_areColumnsRight_111_b N (f_M_areColumnsRight_111 N fu) ρ x (nI i) := rfl
    have dd := dat_mo d mo
    obtain ⟨hT, hE, hQ⟩ := id dd
    have g4 := hQ.2.1.1
    have ns3 := hQ.1.1
    rw [e0]
    unfold f_M_areColumnsRight_111_b
    rw [hQ.2.1.2.2.1, if_neg (nI_ge (by omega) (by omega)), nI_1]
    by_cases c : x = 0
    · rw [if_pos c]
      obtain ⟨r, ρ', z1, z2, z3, z4⟩ := ih (i + 1) fu ρ 0 mo (by omega) (by omega) (Or.inl rfl)
      exact ⟨r, ρ', z1, z2, z3, z4.trans ⟨fun z => absurd z.1 (by decide), fun z => absurd z.1 (by rw [c]; decide)⟩⟩
    · have x1 : x = 1 := by rcases hx with z | z; exact absurd z c; exact z
      obtain ⟨j, j1, j2, j3, j4⟩ := hQ.2.1.2.2.2 i (by omega)
      obtain ⟨ls, rfl⟩ : ∃ q, ns = q + 1 := ⟨ns - 1, by omega⟩
      rw [if_neg c, ckb_nI (show i < 4 by omega) (by decide), nI_clamp (show i < 2 ^ 31 by omega), j3, hQ.1.2.2.1, nI_pred]
      obtain ⟨r1, ρ1, y1, y2, y3, y4⟩ := m_hasc N hN dd (show ls < ls + 1 by omega) j1
      rw [y1, bd_eq]
      rw [cko_mo mo, ← j2] at y4
      by_cases c1 : r1 = 0
      · rw [if_pos c1]
        obtain ⟨r, ρ', z1, z2, z3, z4⟩ := ih (i + 1) fu ρ1 0 (mo.trans y2) (by omega) (by omega) (Or.inl rfl)
        refine ⟨r, ρ', z1, z2, z3, z4.trans ⟨fun z => absurd z.1 (by decide), fun z => ?_⟩⟩
        have := y4.mpr (z.2.1 i (Nat.le_refl _) (by omega))
        rw [c1] at this
        exact absurd this (by decide)
      · have r11 : r1 = 1 := by rcases y3 with z | z; exact absurd z c1; exact z
        rw [if_neg c1]
        obtain ⟨r, ρ', z1, z2, z3, z4⟩ := ih (i + 1) fu ρ1 1 (mo.trans y2) (by omega) (by omega) (Or.inr rfl)
        refine ⟨r, ρ', z1, z2, z3, z4.trans ⟨fun z => ⟨x1, fun k h1 h2 => ?_, z.2.2⟩, fun z => ⟨rfl, fun k h1 h2 => z.2.1 k (by omega) h2, z.2.2⟩⟩⟩
        by_cases e : k = i
        · subst e; exact y4.mp r11
        · exact z.2.1 k (by omega) h2
/-- a condition on both sides: none, or one -/
theorem cnd_sign {x y : Int32} {n : Nat} {τ : Nat → Tr} (hn : n ≤ 60) (h : Cnd x y n τ) : (y < 0 ∧ oo τ x = none ∧ x = -1) ∨ (¬ y < 0 ∧ ¬ x = -1 ∧ ∃ j, j < n ∧ y = nI j ∧ x = nI j ∧ tru (τ j)) := by
  rcases h with h | ⟨j, h1, h2, h3, h4⟩
  · exact Or.inl ⟨by rw [h.2]; decide, by rw [h.1]; rfl, h.1⟩
  · exact Or.inr ⟨by rw [h3]; exact nI_pos (by omega), by rw [h2]; exact nI_ne_m1 (by omega), j, h1, h3, h2, h4⟩
theorem cko_none {ρ : St} {w : Nat → Nat} {lv : Nat} : CKo ρ w none lv := fun b q => by simp [os] at q
theorem m_c79 (N : Nat) (hN : 100 < N) {σ ρ0 ρ : St} {nt n m ns ng ni no : Nat} {w h : Nat → Nat} {τ : Nat → Tr} (d : Dat σ ρ0 nt n m ns ng ni no w h τ) (h0 : 0 < ns) (mo : MO ρ0 ρ) : ∃ r ρ', f_M_areColumnsRight_79 N ρ = some (r, ρ') ∧ MO ρ0 ρ' ∧ (r = 0 ∨ r = 1) ∧ (r = 1 ↔ CKo ρ0 w (oo τ (gi σ 5)) ns ∧ (∀ k, k < ng → CKo ρ0 w (oo τ (ga σ 16 k)) ns) ∧ ∀ k, k < ni → CKo ρ0 w (oo τ (ga σ 17 k)) ns) := by
  have dd := dat_mo d mo
  obtain ⟨hT, hE, hQ⟩ := id dd
  have g4 := hQ.2.1.1
  unfold f_M_areColumnsRight_79
  rcases cnd_sign hE.1 hQ.2.2.2.2.2.1 with ⟨c1, c2, -⟩ | ⟨c1, -, j, j1, j2, j3, -⟩
  · rw [if_pos c1, c2]
    obtain ⟨r, ρ', z1, z2, z3, z4⟩ := m_c111 N hN d h0 ng 0 N ρ 1 mo (by omega) (by omega) (Or.inr rfl)
    exact ⟨r, ρ', z1, z2, z3, z4.trans ⟨fun z => ⟨cko_none, fun k hk => z.2.1 k (by omega) hk, z.2.2⟩, fun z => ⟨rfl, fun k _ hk => z.2.1 k hk, z.2.2⟩⟩⟩
  · obtain ⟨ls, rfl⟩ : ∃ q, ns = q + 1 := ⟨ns - 1, by omega⟩
    rw [if_neg c1, j2, hQ.1.2.2.1, nI_pred]
    obtain ⟨r1, ρ1, y1, y2, y3, y4⟩ := m_hasc N hN dd (show ls < ls + 1 by omega) j1
    rw [y1, bd_eq]
    rw [cko_mo mo, ← j3] at y4
    by_cases c1 : r1 = 0
    · rw [if_pos c1]
      obtain ⟨r, ρ', z1, z2, z3, z4⟩ := m_c111 N hN d h0 ng 0 N ρ1 0 (mo.trans y2) (by omega) (by omega) (Or.inl rfl)
      refine ⟨r, ρ', z1, z2, z3, z4.trans ⟨fun z => absurd z.1 (by decide), fun z => ?_⟩⟩
      have := y4.mpr z.1
      rw [c1] at this
      exact absurd this (by decide)
    · have r11 : r1 = 1 := by rcases y3 with z | z; exact absurd z c1; exact z
      rw [if_neg c1]
      obtain ⟨r, ρ', z1, z2, z3, z4⟩ := m_c111 N hN d h0 ng 0 N ρ1 1 (mo.trans y2) (by omega) (by omega) (Or.inr rfl)
      exact ⟨r, ρ', z1, z2, z3, z4.trans ⟨fun z => ⟨y4.mp r11, fun k hk => z.2.1 k (by omega) hk, z.2.2⟩, fun z => ⟨rfl, fun k _ hk => z.2.1 k hk, z.2.2⟩⟩⟩
theorem m_cols (N : Nat) (hN : 100 < N) {σ ρ0 : St} {nt n m ns ng ni no : Nat} {w h : Nat → Nat} {τ : Nat → Tr} (d : Dat σ ρ0 nt n m ns ng ni no w h τ) (h0 : 0 < ns) : ∃ r ρ', f_M_areColumnsRight N ρ0 = some (r, ρ') ∧ MO ρ0 ρ' ∧ (r = 0 ∨ r = 1) ∧ (r = 1 ↔ ColsOk σ ρ0 w τ ns ng ni) := by
  have key : ∀ (q i fu : Nat) (ρ : St) (x : Int32), MO ρ0 ρ → i + q = ns → q < fu → (x = 0 ∨ x = 1) → ∃ r ρ', f_M_areColumnsRight_4 N fu ρ x (nI i) = some (r, ρ') ∧ MO ρ0 ρ' ∧ (r = 0 ∨ r = 1) ∧ (r = 1 ↔ x = 1 ∧ (∀ k, i ≤ k → k < ns → CKo ρ0 w (oo τ (ga σ 15 k)) (k + 1)) ∧ CKo ρ0 w (oo τ (gi σ 4)) ns ∧ CKo ρ0 w (oo τ (gi σ 5)) ns ∧ (∀ k, k < ng → CKo ρ0 w (oo τ (ga σ 16 k)) ns) ∧ ∀ k, k < ni → CKo ρ0 w (oo τ (ga σ 17 k)) ns) := by
    intro q
    induction q with
    | zero =>
      intro i fu ρ x mo hi hfu hx
      obtain ⟨fu, rfl⟩ : ∃ q, fu = q + 1 := ⟨fu - 1, by omega⟩
      have e0 : f_M_areColumnsRight_4 N (fu + 1) ρ x (nI i) = f_M_areColumnsRight_4_b N (f_M_areColumnsRight_4 N fu) ρ x (nI i) := rfl
      have dd := dat_mo d mo
      obtain ⟨hT, hE, hQ⟩ := id dd
      have g4 := hQ.2.1.1
      have ns3 := hQ.1.1
      rw [e0]
      unfold f_M_areColumnsRight_4_b
      rw [hQ.1.2.2.1, if_pos (nI_le (by omega) (by omega))]
      by_cases c : x = 0
      · rw [if_pos c]
        obtain ⟨r, ρ', z1, z2, z3, z4⟩ := m_c111 N hN d h0 ng 0 N ρ 0 mo (by omega) (by omega) (Or.inl rfl)
        exact ⟨r, ρ', z1, z2, z3, z4.trans ⟨fun z => absurd z.1 (by decide), fun z => absurd z.1 (by rw [c]; decide)⟩⟩
      · have x1 : x = 1 := by rcases hx with z | z; exact absurd z c; exact z
        rw [if_neg c]
        rcases cnd_sign hE.1 hQ.2.2.2.2.1 with ⟨c1, c2, -⟩ | ⟨c1, -, j, j1, j2, j3, -⟩
        · rw [if_pos c1, c2]
          obtain ⟨r, ρ', z1, z2, z3, z4⟩ := m_c79 N hN d h0 mo
          exact ⟨r, ρ', z1, z2, z3, z4.trans ⟨fun z => ⟨x1, fun k h1 h2 => by omega, cko_none, z⟩, fun z => z.2.2.2⟩⟩
        · obtain ⟨ls, rfl⟩ : ∃ q, ns = q + 1 := ⟨ns - 1, by omega⟩
          rw [if_neg c1, j2, nI_pred]
          obtain ⟨r1, ρ1, y1, y2, y3, y4⟩ := m_hasc N hN dd (show ls < ls + 1 by omega) j1
          rw [y1, bd_eq]
          rw [cko_mo mo, ← j3] at y4
          by_cases c1 : r1 = 0
          · rw [if_pos c1]
            obtain ⟨r, ρ', z1, z2, z3, z4⟩ := m_c111 N hN d h0 ng 0 N ρ1 0 (mo.trans y2) (by omega) (by omega) (Or.inl rfl)
            refine ⟨r, ρ', z1, z2, z3, z4.trans ⟨fun z => absurd z.1 (by decide), fun z => ?_⟩⟩
            have := y4.mpr z.2.2.1
            rw [c1] at this
            exact absurd this (by decide)
          · have r11 : r1 = 1 := by rcases y3 with z | z; exact absurd z c1; exact z
            rw [if_neg c1]
            obtain ⟨r, ρ', z1, z2, z3, z4⟩ := m_c79 N hN d h0 (mo.trans y2)
            exact ⟨r, ρ', z1, z2, z3, z4.trans ⟨fun z => ⟨x1, fun k h1 h2 => by omega, y4.mp r11, z⟩, fun z => z.2.2.2⟩⟩
    | succ q ih =>
      intro i fu ρ x mo hi hfu hx
      obtain ⟨fu, rfl⟩ : ∃ q, fu = q + 1 := ⟨fu - 1, by omega⟩
      have e0 : f_M_areColumnsRight_4 N (fu + 1) ρ x (nI i) = f_M_areColumnsRight_4_b N (f_M_areColumnsRight_4 N fu) ρ x (nI i) := rfl
      have dd := dat_mo d mo
      obtain ⟨hT, hE, hQ⟩ := id dd
      have ns3 := hQ.1.1
      rw [e0]
      unfold f_M_areColumnsRight_4_b
      rw [hQ.1.2.2.1, if_neg (nI_ge (by omega) (by omega)), nI_1]
      by_cases c : x = 0
      · rw [if_pos c]
        obtain ⟨r, ρ', z1, z2, z3, z4⟩ := ih (i + 1) fu ρ 0 mo (by omega) (by omega) (Or.inl rfl)
        exact ⟨r, ρ', z1, z2, z3, z4.trans ⟨fun z => absurd z.1 (by decide), fun z => absurd z.1 (by rw [c]; decide)⟩⟩
      · have x1 : x = 1 := by rcases hx with z | z; exact absurd z c; exact z
        rw [if_neg c, ckb_nI (show i < 3 by omega) (by decide), nI_clamp (show i < 2 ^ 31 by omega), ckb_nI (show i < 3 by omega) (by decide)]
        obtain ⟨t, hw, h1, h2, h3, h4, h5, h6, h7, h8⟩ := hQ.1.2.2.2 i (by omega)
        rw [h7]
        have step : ∀ (ρ1 : St), MO ρ0 ρ1 → CKo ρ0 w (oo τ (ga σ 15 i)) (i + 1) → ∃ r ρ', f_M_areColumnsRight_4 N fu ρ1 1 (nI (i + 1)) = some (r, ρ') ∧ MO ρ0 ρ' ∧ (r = 0 ∨ r = 1) ∧ (r = 1 ↔ x = 1 ∧ (∀ k, i ≤ k → k < ns → CKo ρ0 w (oo τ (ga σ 15 k)) (k + 1)) ∧ CKo ρ0 w (oo τ (gi σ 4)) ns ∧ CKo ρ0 w (oo τ (gi σ 5)) ns ∧ (∀ k, k < ng → CKo ρ0 w (oo τ (ga σ 16 k)) ns) ∧ ∀ k, k < ni → CKo ρ0 w (oo τ (ga σ 17 k)) ns) := by
          intro ρ1 mo1 ck
          obtain ⟨r, ρ', z1, z2, z3, z4⟩ := ih (i + 1) fu ρ1 1 mo1 (by omega) (by omega) (Or.inr rfl)
          refine ⟨r, ρ', z1, z2, z3, z4.trans ⟨fun z => ⟨x1, fun k h1 h2 => ?_, z.2.2⟩, fun z => ⟨rfl, fun k h1 h2 => z.2.1 k (by omega) h2, z.2.2⟩⟩⟩
          by_cases e : k = i
          · subst e; exact ck
          · exact z.2.1 k (by omega) h2
        rcases h8 with ⟨g1, g2, g3⟩ | ⟨g1, j, j1, j2, j3, j4⟩
        · rw [if_pos (show nI hw = 0 by rw [g1]; rfl)]
          exact step ρ mo (by rw [g2]; exact cko_none)
        · rw [if_neg (show ¬ nI hw = 0 from fun z => g1 ((nI_z (by omega)).mp z)), j3]
          obtain ⟨r1, ρ1, y1, y2, y3, y4⟩ := m_hasc N hN dd (show i < ns by omega) j1
          rw [y1, bd_eq]
          rw [cko_mo mo, ← j2] at y4
          by_cases c1 : r1 = 0
          · rw [if_pos c1]
            obtain ⟨r, ρ', z1, z2, z3, z4⟩ := ih (i + 1) fu ρ1 0 (mo.trans y2) (by omega) (by omega) (Or.inl rfl)
            refine ⟨r, ρ', z1, z2, z3, z4.trans ⟨fun z => absurd z.1 (by decide), fun z => ?_⟩⟩
            have := y4.mpr (z.2.1 i (Nat.le_refl _) (by omega))
            rw [c1] at this
            exact absurd this (by decide)
          · have r11 : r1 = 1 := by rcases y3 with z | z; exact absurd z c1; exact z
            rw [if_neg c1]
            exact step ρ1 (mo.trans y2) (y4.mp r11)
  have ns3 := d.2.2.1.1
  obtain ⟨r, ρ', z1, z2, z3, z4⟩ := key ns 0 N ρ0 1 MO.rfl (by omega) (by omega) (Or.inr rfl)
  refine ⟨r, ρ', z1, z2, z3, z4.trans ⟨fun z => ⟨fun k hk => z.2.1 k (by omega) hk, z.2.2⟩, fun z => ⟨rfl, fun k _ hk => z.1 k hk, z.2⟩⟩⟩

