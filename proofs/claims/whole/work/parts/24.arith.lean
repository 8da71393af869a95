/-! reckoning on both sides (own rows) -/
def wL (σ : St) (l : Nat → Int64) : St := (σ.1, l, σ.2.2)
theorem wL_sl {σ : St} {l : Nat → Int64} {r : Nat} {v : Int64} : sl (wL σ l) r v = wL σ (vp_updL l r v) := rfl
theorem wL_self {σ : St} : wL σ (gl σ) = σ := rfl
theorem si_self {σ : St} {r : Nat} {v : Int32} (h : gi σ r = v) : si σ r v = σ := by
  unfold si
  have : upd σ.1 r v = σ.1 := by
    funext j
    rw [upd_at]
    by_cases c : j = r
    · rw [if_pos c, c]; exact h.symm
    · rw [if_neg c]
  rw [this]
theorem x_c127 {N : Nat} {σ : St} {l : Nat → Int64} {v : Int64} : ∃ l', f_V_calculate_127 N (wL σ l) v = some (vc (chk v), wL σ l') ∧ ∀ z, chk v = .ok (some z) → l' 0 = z := by
  unfold f_V_calculate_127 chk
  simp only [cmp_lt, cmp_le]
  by_cases c1 : v < -1000000000000000
  · rw [if_pos c1, if_neg (show ¬ okF v from fun h => by have := h.1; rw [i64_lt] at c1; rw [i64_le] at this; omega)]
    exact ⟨l, rfl, fun z q => by cases q⟩
  · rw [if_neg c1]
    by_cases c2 : v ≤ 1000000000000000
    · have ok : okF v := ⟨by rw [i64_lt] at c1; rw [i64_le]; omega, c2⟩
      rw [if_pos c2, if_pos ok, nm_eq, wL_sl]
      refine ⟨_, rfl, fun z q => ?_⟩
      cases q
      rw [updL_at, if_pos rfl]
    · rw [if_neg c2, if_neg (show ¬ okF v from fun h => c2 h.2)]
      exact ⟨l, rfl, fun z q => by cases q⟩
theorem vc_okF {v : Int64} (h : okF v) : chk v = .ok (some v) := by unfold chk; rw [if_pos h]
theorem sz_ne {v : Int64} (h : okF v) (h0 : ¬ v = 0) : ¬ sz64 v = 0 := by
  intro q
  have := congrArg Int64.toInt q
  rw [sz_toInt h, Int64.toInt_zero] at this
  exact h0 (by rw [i64_eq, Int64.toInt_zero]; omega)
theorem k5 {k : Nat} (h : k < 5) : k = 0 ∨ k = 1 ∨ k = 2 ∨ k = 3 ∨ k = 4 := by omega
theorem x_calc {N : Nat} {σ : St} {l : Nat → Int64} {k : Nat} {x y : Int64} (hk : k < 5) (hx : okF x) (hy : okF y) : ∃ l', f_V_calculate N (wL σ l) (nI k) x y = some (vc (rk k x y), wL σ l') ∧ ∀ z, rk k x y = .ok (some z) → l' 0 = z := by
  unfold f_V_calculate
  rcases k5 hk with rfl | rfl | rfl | rfl | rfl
  · exact x_c127 (N := N)
  · exact x_c127 (N := N)
  · simp (decide := true) only [if_true, if_false, cmp_eq, cmp_ge]
    have r2 : rk 2 x y = if x = 0 ∨ sz64 y ≤ 1000000000000000 / sz64 x then .ok (some (x * y)) else .error (-21) := rfl
    rw [r2]
    by_cases c : x = 0
    · rw [if_pos c, if_pos (Or.inl c), ← vc_okF (mul_ok hx hy (Or.inl c))]
      exact x_c127 (N := N)
    · rw [if_neg c]
      unfold f_V_calculate_67 f_V_calculate_82 f_V_calculate_90
      simp only [cmp_ge, cmp_le]
      have e : ∀ a b : Int64, sz64 x = a → sz64 y = b → ∃ l', (ckzl a <| if b ≤ 1000000000000000 / a then f_V_calculate_127 N (wL σ l) (x * y) else some (-21, wL σ l)) = some (vc (if x = 0 ∨ sz64 y ≤ 1000000000000000 / sz64 x then .ok (some (x * y)) else .error (-21)), wL σ l') ∧ ∀ z, (if x = 0 ∨ sz64 y ≤ 1000000000000000 / sz64 x then (.ok (some (x * y)) : Rs) else .error (-21)) = .ok (some z) → l' 0 = z := by
        intro a b ha hb
        rw [ha, hb, ckzl_ne (by rw [← ha]; exact sz_ne hx c)]
        by_cases d : b ≤ 1000000000000000 / a
        · rw [if_pos d, if_pos (Or.inr d), ← vc_okF (mul_ok hx hy (Or.inr (by rw [ha, hb]; exact d)))]
          exact x_c127 (N := N)
        · rw [if_neg d, if_neg (show ¬ (x = 0 ∨ b ≤ 1000000000000000 / a) from fun z => z.elim c d)]
          exact ⟨l, rfl, fun z q => by cases q⟩
      by_cases y0 : (0 : Int64) ≤ y
      · rw [if_pos y0]
        by_cases x0 : (0 : Int64) ≤ x
        · rw [if_pos x0]; exact e x y (by unfold sz64; rw [if_pos x0]) (by unfold sz64; rw [if_pos y0])
        · rw [if_neg x0]; exact e (-x) y (by unfold sz64; rw [if_neg x0]) (by unfold sz64; rw [if_pos y0])
      · rw [if_neg y0]
        by_cases x0 : (0 : Int64) ≤ x
        · rw [if_pos x0]; exact e x (-y) (by unfold sz64; rw [if_pos x0]) (by unfold sz64; rw [if_neg y0])
        · rw [if_neg x0]; exact e (-x) (-y) (by unfold sz64; rw [if_neg x0]) (by unfold sz64; rw [if_neg y0])
  · simp (decide := true) only [if_true, if_false, cmp_eq]
    have r3 : rk 3 x y = if y = 0 then .error (-20) else chk (x / y) := rfl
    rw [r3]
    by_cases c : y = 0
    · rw [if_pos c, if_pos c]; exact ⟨l, rfl, fun z q => by cases q⟩
    · rw [if_neg c, if_neg c, ckzl_ne c]; exact x_c127 (N := N)
  · simp (decide := true) only [if_true, if_false, cmp_eq]
    have r4 : rk 4 x y = if y = 0 then .error (-20) else chk (x - x / y * y) := rfl
    rw [r4]
    by_cases c : y = 0
    · rw [if_pos c, if_pos c]; exact ⟨l, rfl, fun z q => by cases q⟩
    · rw [if_neg c, if_neg c, ckzl_ne c]; exact x_c127 (N := N)
theorem m_size {N : Nat} {ρ : St} {x : Int64} : f_M_size N ρ x = some (sz64 x, ρ) := by
  unfold f_M_size sz64
  simp only [cmp_ge]
  by_cases c : (0 : Int64) ≤ x
  · rw [if_pos c, if_pos c]
  · rw [if_neg c, if_neg c]
/-- M's reckon: the number, or wrong -/
def mrk (ρ : St) (r : Rs) (o : Option (Int64 × St)) : Prop := match r with
  | .ok (some v) => o = some (v, ρ)
  | .ok none => False
  | .error e => ∃ v, o = some (v, si ρ 14 e)
theorem far_iff {v : Int64} (h1 : -2 ^ 62 ≤ v.toInt) (h2 : v.toInt ≤ 2 ^ 62) : sz64 v ≤ 1000000000000000 ↔ okF v := by
  rw [okF_iff, i64_le, F_toInt.1]
  unfold sz64
  by_cases c : (0 : Int64) ≤ v
  · rw [if_pos c]
    rw [i64_le, Int64.toInt_zero] at c
    omega
  · rw [if_neg c]
    rw [i64_le, Int64.toInt_zero] at c
    have := i64_toInt_of (v := -v) (z := -v.toInt) (Int64.toInt_neg v) (by omega) (by omega)
    omega
theorem m_r126 {N : Nat} {ρ : St} {v : Int64} (h1 : -2 ^ 62 ≤ v.toInt) (h2 : v.toInt ≤ 2 ^ 62) : mrk ρ (chk v) (f_M_reckon_126 N ρ v) := by
  unfold f_M_reckon_126 chk
  rw [m_size, bd_eq]
  simp only [cmp_le, nm_eq]
  by_cases c : okF v
  · rw [if_pos c, if_pos ((far_iff h1 h2).mpr c), si_self rfl]; exact rfl
  · rw [if_neg c, if_neg (fun z => c ((far_iff h1 h2).mp z))]; exact ⟨v, rfl⟩
theorem div_bd {x y : Int64} (hx : okF x) (_ : okF y) : -1000000000000000 ≤ (x / y).toInt ∧ (x / y).toInt ≤ 1000000000000000 ∧ (x / y).toInt = x.toInt.tdiv y.toInt := by
  rw [okF_iff] at hx
  have hb : (x.toInt.tdiv y.toInt).natAbs ≤ 1000000000000000 := by
    rw [Int.natAbs_tdiv]
    exact Nat.le_trans (Nat.div_le_self _ _) (by omega)
  have := i64_toInt_of (v := x / y) (z := x.toInt.tdiv y.toInt) (Int64.toInt_div x y) (by omega) (by omega)
  omega
theorem rem_bd {x y : Int64} (hx : okF x) (hy : okF y) : -2 ^ 62 ≤ (x - x / y * y).toInt ∧ (x - x / y * y).toInt ≤ 2 ^ 62 := by
  obtain ⟨d1, d2, d3⟩ := div_bd hx hy
  rw [okF_iff] at hx hy
  have m1 : (x.toInt.tdiv y.toInt * y.toInt).natAbs ≤ 1000000000000000 := by
    rw [Int.natAbs_mul, Int.natAbs_tdiv]
    exact Nat.le_trans (Nat.div_mul_le_self _ _) (by omega)
  have e1 := i64_toInt_of (v := x / y * y) (z := x.toInt.tdiv y.toInt * y.toInt) (by rw [Int64.toInt_mul, d3]) (by omega) (by omega)
  have e2 := i64_toInt_of (v := x - x / y * y) (z := x.toInt - x.toInt.tdiv y.toInt * y.toInt) (by rw [Int64.toInt_sub, e1]) (by omega) (by omega)
  omega
theorem m_reckon {N : Nat} {ρ : St} {k : Nat} {x y : Int64} (hk : k < 5) (hx : okF x) (hy : okF y) : mrk ρ (rk k x y) (f_M_reckon N ρ (nI k) x y) := by
  have bx := okF_iff.mp hx
  have bY := okF_iff.mp hy
  unfold f_M_reckon f_M_reckon_20
  rcases k5 hk with rfl | rfl | rfl | rfl | rfl
  · simp (decide := true) only [if_true, if_false]
    have := i64_toInt_of (v := x + y) (z := x.toInt + y.toInt) (Int64.toInt_add x y) (by omega) (by omega)
    exact m_r126 (by omega) (by omega)
  · simp (decide := true) only [if_true, if_false]
    have := i64_toInt_of (v := x - y) (z := x.toInt - y.toInt) (Int64.toInt_sub x y) (by omega) (by omega)
    exact m_r126 (by omega) (by omega)
  · simp (decide := true) only [if_true, if_false, cmp_eq]
    have r2 : rk 2 x y = if x = 0 ∨ sz64 y ≤ 1000000000000000 / sz64 x then .ok (some (x * y)) else .error (-21) := rfl
    rw [r2]
    unfold f_M_reckon_52 f_M_reckon_53 f_M_reckon_70
    by_cases c : x = 0
    · rw [if_pos c, if_pos (Or.inl c), if_pos rfl, nm_eq, if_pos rfl, si_self rfl]; exact rfl
    · rw [if_neg c, m_size, bd_eq, m_size, bd_eq, ckzl_ne (sz_ne hx c)]
      simp only [cmp_le, if_true, nm_eq, show ¬ (1 : Int32) = 0 by decide, if_false]
      by_cases d : sz64 y ≤ 1000000000000000 / sz64 x
      · rw [if_pos d, if_pos (Or.inr d), si_self rfl]; exact rfl
      · rw [if_neg d, if_neg (show ¬ (x = 0 ∨ sz64 y ≤ 1000000000000000 / sz64 x) from fun z => z.elim c d)]; exact ⟨0, rfl⟩
  · simp (decide := true) only [if_true, if_false, cmp_eq]
    have r3 : rk 3 x y = if y = 0 then .error (-20) else chk (x / y) := rfl
    rw [r3]
    by_cases c : y = 0
    · rw [if_pos c, if_pos c]; exact ⟨0, rfl⟩
    · rw [if_neg c, if_neg c, ckzl_ne c]
      obtain ⟨d1, d2, -⟩ := div_bd hx hy
      exact m_r126 (by omega) (by omega)
  · simp (decide := true) only [if_true, if_false, cmp_eq]
    have r4 : rk 4 x y = if y = 0 then .error (-20) else chk (x - x / y * y) := rfl
    rw [r4]
    by_cases c : y = 0
    · rw [if_pos c, if_pos c]; exact ⟨0, rfl⟩
    · rw [if_neg c, if_neg c, ckzl_ne c]
      obtain ⟨d1, d2⟩ := rem_bd hx hy
      exact m_r126 d1 d2

