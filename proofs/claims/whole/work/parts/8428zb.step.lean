/-! groups in step: the aggregates of a row (own rows) -/
theorem sum_far {t v : Int64} (ht : okF t) (hv : okF v) : lg_cmp (sz64 (t + v)) 1000000000000000 ≤ 0 ↔ okF (t + v) := by
  have h1 := okF_iff.mp ht
  have h2 := okF_iff.mp hv
  have e : (t + v).toInt = t.toInt + v.toInt := i64_toInt_of (Int64.toInt_add t v) (by omega) (by omega)
  rw [cmp_le]
  exact far_iff (by rw [e]; omega) (by rw [e]; omega)
theorem kd30 : ∀ K, K ≤ 5 → nI (30 + K) - 30 = nI K := by decide
theorem e37 (N : Nat) {ρ : St} {m q k i e j K fu : Nat} (hi : i < m) (m8 : m ≤ 8) (hk : k < 520) (hm : gi ρ 2 = nI m) (ha : ga ρ 10 i = nI e) (he : e < 60) (h5 : K ≤ 5) (hkd : ga ρ 3 e = nI (30 + K)) (hf : ga ρ 4 e = nI j) (hq : ¬ ga ρ 23 i = 0) :
    f_M_putInGroup_37 N (fu + 1) ρ (nI q) (nI k) (nI i) = if K = 0 then f_M_putInGroup_37 N fu ρ (nI q) (nI k) (nI (i + 1)) else bd (f_M_workOut N ρ (nI j)) fun _ s6 => if gi s6 14 = 0 then (if K = 2 ∨ K = 5 then f_M_putInGroup_147 N (f_M_putInGroup_37 N fu) (wz (wl s6 3 (nI (8 * k + i)) (gb s6 6 0)) 21 (nI (8 * k + i)) (ga s6 26 0)) (nI q) (nI k) (nI i) else f_M_putInGroup_37 N fu (wz (wl s6 3 (nI (8 * k + i)) (gb s6 6 0)) 21 (nI (8 * k + i)) (ga s6 26 0)) (nI q) (nI k) (nI (i + 1))) else some ((), s6) := by
  show f_M_putInGroup_37_b N (f_M_putInGroup_37 N fu) ρ (nI q) (nI k) (nI i) = _
  unfold f_M_putInGroup_37_b
  have c0 : ∀ x : Option (Unit × St), ckb (0 : Int32) 64 x = x := fun x => ckb_nI (j := 0) (by decide) (by decide)
  have z0 : ((0 : Int32)).toNatClampNeg = 0 := by decide
  rw [hm, if_neg (nI_ge hi (by omega))]
  simp only [ckb_nI (show i < 8 by omega) (show 8 < 2 ^ 31 by decide), nI_clamp (show i < 2 ^ 31 by omega), ha, ckb_nI he (show 60 < 2 ^ 31 by decide), nI_clamp (show e < 2 ^ 31 by omega), hkd, hf, kd30 K h5, nI_8', ckb_nI (show 8 * k + i < 4160 by omega) (show 4160 < 2 ^ 31 by decide), c0, z0, nm_eq, nI_1]
  rw [if_neg hq]
  by_cases c : K = 0
  · rw [if_pos (show nI K = 0 by rw [c]; rfl), if_pos c]
  · rw [if_neg (show ¬ nI K = 0 from fun z => c ((nI_z (by omega)).mp z)), if_neg c]
    have k2 : nI K = 2 ↔ K = 2 := nI_eq (b := 2) (by omega) (by decide)
    have k5 : nI K = 5 ↔ K = 5 := nI_eq (b := 5) (by omega) (by decide)
    congr 1
    funext u s6
    by_cases c1 : gi s6 14 = 0
    · rw [if_pos c1, if_pos c1]
      by_cases c2 : K = 2
      · rw [if_pos (k2.mpr c2), if_pos (Or.inl c2)]
        rfl
      · rw [if_neg (fun z => c2 (k2.mp z))]
        by_cases c5 : K = 5
        · rw [if_pos (k5.mpr c5), if_pos (Or.inr c5)]
          rfl
        · rw [if_neg (fun z => c5 (k5.mp z)), if_neg (fun z => by omega)]
          rfl
    · rw [if_neg c1, if_neg c1]
theorem e147 (N : Nat) {ρ : St} {q k i : Nat} {b : Int32} {f : St → Int32 → Int32 → Int32 → Option (Unit × St)} (hq : q < 520) (hi : i < 8) (hb : f_M_countsIn N ρ (nI k) (nI i) = some (b, ρ)) :
    f_M_putInGroup_147 N f ρ (nI q) (nI k) (nI i) = if b = 0 then f ρ (nI q) (nI k) (nI (i + 1)) else if lg_cmp (sz64 (gb ρ 5 (8 * q + i) + gb ρ 6 0)) 1000000000000000 ≤ 0 then f (wl ρ 5 (nI (8 * q + i)) (gb ρ 5 (8 * q + i) + gb ρ 6 0)) (nI q) (nI k) (nI (i + 1)) else some ((), si (wl ρ 5 (nI (8 * q + i)) (gb ρ 5 (8 * q + i) + gb ρ 6 0)) 14 (-21)) := by
  unfold f_M_putInGroup_147
  have c0 : ∀ x : Option (Unit × St), ckb (0 : Int32) 64 x = x := fun x => ckb_nI (j := 0) (by decide) (by decide)
  have z0 : ((0 : Int32)).toNatClampNeg = 0 := by decide
  rw [hb, bd_eq]
  by_cases c : b = 0
  · rw [if_pos c, if_pos c, nI_1]
  · rw [if_neg c, if_neg c, nI_8']
    simp only [ckb_nI (show 8 * q + i < 4160 by omega) (show 4160 < 2 ^ 31 by decide), nI_clamp (show 8 * q + i < 2 ^ 31 by omega), c0, z0, nm_eq, nI_1, m_size, bd_eq]
    have e : gb (wl ρ 5 (nI (8 * q + i)) (gb ρ 5 (8 * q + i) + gb ρ 6 0)) 5 (8 * q + i) = gb ρ 5 (8 * q + i) + gb ρ 6 0 := by rw [gb_wl, if_pos rfl]; exact updLn (by omega)
    rw [e]

