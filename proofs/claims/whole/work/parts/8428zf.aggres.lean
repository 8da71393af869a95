/-! what an aggregate comes to (own rows) -/
abbrev cI (c : Nat) : Int64 := (nI c).toInt64
theorem cI_1 : ∀ c, c < 600 → cI c + 1 = cI (c + 1) := by decide +kernel
theorem cI_0 : ∀ c, c < 600 → (cI c = 0 ↔ c = 0) := by decide +kernel
theorem cI_ok : ∀ c, c < 600 → okF (cI c) := by decide +kernel
theorem cI_int : ∀ c, c < 600 → (cI c).toInt = c := by decide +kernel
def aggV (κ : Nat) (p : Nat × Int64) : Option Int64 := if κ < 2 then some (cI p.1) else if p.1 = 0 then none else if κ = 5 then some (p.2 / cI p.1) else some p.2
theorem acc_K {K K' : Nat → Nat} {D : Nat → Bool} {gr : Nat → Nat} {arg : Nat → Nat → Option Int64} {q s : Nat} (h : ∀ t v, comb (K s) t v = comb (K' s) t v) : ∀ R, acc K D gr arg q s R = acc K' D gr arg q s R
  | 0 => rfl
  | r + 1 => by
    have ih := acc_K (D := D) (gr := gr) (arg := arg) (q := q) h r
    unfold acc
    rw [ih, h]
theorem acc_fst {K K' : Nat → Nat} {D : Nat → Bool} {gr : Nat → Nat} {arg : Nat → Nat → Option Int64} {q s : Nat} : ∀ R, (acc K D gr arg q s R).1 = (acc K' D gr arg q s R).1
  | 0 => rfl
  | r + 1 => by
    have ih := acc_fst (K := K) (K' := K') (D := D) (gr := gr) (arg := arg) (q := q) (s := s) r
    by_cases c : gr r = q ∧ cntB D gr arg r s = true
    · rw [acc_cnt c.1 c.2, acc_cnt c.1 c.2, ih]
    · have e : ∀ K, acc K D gr arg q s (r + 1) = acc K D gr arg q s r := fun K => by show (if _ then _ else _) = _; rw [if_neg c]
      rw [e, e, ih]
theorem div_okF {t : Int64} {c : Nat} (ht : okF t) (hc : c < 600) (h0 : ¬ c = 0) : okF (t / cI c) := by
  have h1 := okF_iff.mp ht
  have hq := cI_int c hc
  have e0 : (t / cI c).toInt = (t.toInt.tdiv (cI c).toInt).bmod (2 ^ 64) := Int64.toInt_div t (cI c)
  rw [hq] at e0
  have na : (t.toInt.tdiv (c : Int)).natAbs ≤ t.toInt.natAbs := by
    rw [Int.natAbs_tdiv]
    exact Nat.div_le_self _ _
  have e := i64_toInt_of e0 (by omega) (by omega)
  rw [okF_iff, e]
  omega
theorem aggV_ok {κ : Nat} {p : Nat × Int64} {z : Int64} (hp : p.1 < 600) (ok : okF p.2) (h : aggV κ p = some z) : okF z := by
  unfold aggV at h
  split at h
  · cases h; exact cI_ok _ hp
  · split at h
    · cases h
    · split at h
      · cases h; rename_i c _; exact div_okF ok hp c
      · cases h; exact ok
/-- X: the result of a group's aggregate -/
theorem x_of (N : Nat) {σ : St} {q s κ : Nat} {p : Nat × Int64} (hq : q < 512) (hs : s < 8) (h5 : κ ≤ 5) (hp : p.1 < 600) (hc : gi σ 20 = nI q) (hk : ga σ 10 s = nI κ) (h1 : ga σ 30 (8 * q + s) = nI p.1) (h2 : gb σ 5 (8 * q + s) = p.2) (l : Nat → Int64) :
    ∃ l', f_V_ofGroup N true (wL σ l) (nI s) = some (vc (.ok (aggV κ p)), wL σ l') ∧ ∀ v, aggV κ p = some v → l' 0 = v := by
  have k0 : nI κ = 0 ↔ κ = 0 := nI_z (by omega)
  have k1 : nI κ = 1 ↔ κ = 1 := nI_eq (b := 1) (by omega) (by decide)
  have k5 : nI κ = 5 ↔ κ = 5 := nI_eq (b := 5) (by omega) (by decide)
  have c1 : gi (wL σ l) 20 = nI q := hc
  have z1 : nI p.1 = 0 ↔ p.1 = 0 := nI_z (by omega)
  have re : f_G_resultOf N (wL σ l) (nI s) = some (if κ < 2 then cI p.1 else if p.1 = 0 then (if κ = 5 then 0 else p.2) else if κ = 5 then p.2 / cI p.1 else p.2, wL σ l) := by
    unfold f_G_resultOf
    rw [c1, nI_8]
    simp only [ckb_nI (show 8 * q + s < 4096 by omega) (show 4096 < 2 ^ 31 by decide), ckb_nI hs (show 8 < 2 ^ 31 by decide), nI_clamp (show 8 * q + s < 2 ^ 31 by omega), nI_clamp (show s < 2 ^ 31 by omega)]
    rw [show ga (wL σ l) 10 s = nI κ from hk, show ga (wL σ l) 30 (8 * q + s) = nI p.1 from h1, show gb (wL σ l) 5 (8 * q + s) = p.2 from h2]
    by_cases a0 : κ = 0
    · rw [if_pos (k0.mpr a0), if_pos (show κ < 2 by omega)]
    · rw [if_neg (fun z => a0 (k0.mp z))]
      by_cases a1 : κ = 1
      · rw [if_pos (k1.mpr a1), if_pos (show κ < 2 by omega)]
      · rw [if_neg (fun z => a1 (k1.mp z)), if_neg (show ¬ κ < 2 by omega)]
        by_cases a5 : κ = 5
        · rw [if_pos (k5.mpr a5), if_pos a5, if_pos a5]
          by_cases b0 : p.1 = 0
          · rw [if_pos (z1.mpr b0), if_pos b0]
          · rw [if_neg (fun z => b0 (z1.mp z)), if_neg b0, ckzl_ne (fun z => b0 ((cI_0 _ hp).mp z))]
        · rw [if_neg (fun z => a5 (k5.mp z)), if_neg a5, if_neg a5]
          split <;> rfl
  have ha : ∀ l, f_G_hasResult N (wL σ l) (nI s) = some (if aggV κ p = none then 0 else 1, wL σ l) := by
    intro l
    unfold f_G_hasResult aggV
    have c1 : gi (wL σ l) 20 = nI q := hc
    rw [c1, nI_8]
    simp only [ckb_nI (show 8 * q + s < 4096 by omega) (show 4096 < 2 ^ 31 by decide), ckb_nI hs (show 8 < 2 ^ 31 by decide), nI_clamp (show 8 * q + s < 2 ^ 31 by omega), nI_clamp (show s < 2 ^ 31 by omega)]
    rw [show ga (wL σ l) 10 s = nI κ from hk, show ga (wL σ l) 30 (8 * q + s) = nI p.1 from h1]
    by_cases a0 : κ = 0
    · rw [if_pos (k0.mpr a0), if_pos (show κ < 2 by omega), if_neg (by simp)]
    · rw [if_neg (fun z => a0 (k0.mp z))]
      by_cases a1 : κ = 1
      · rw [if_pos (k1.mpr a1), if_pos (show κ < 2 by omega), if_neg (by simp)]
      · rw [if_neg (fun z => a1 (k1.mp z)), if_neg (show ¬ κ < 2 by omega)]
        by_cases b0 : p.1 = 0
        · rw [if_pos (z1.mpr b0), if_pos b0, if_pos rfl]
        · rw [if_neg (fun z => b0 (z1.mp z)), if_neg b0, if_neg]
          split <;> simp
  obtain ⟨X, hX⟩ : ∃ X, X = (if κ < 2 then cI p.1 else if p.1 = 0 then (if κ = 5 then 0 else p.2) else if κ = 5 then p.2 / cI p.1 else p.2) := ⟨_, rfl⟩
  rw [← hX] at re
  unfold f_V_ofGroup
  rw [if_pos rfl, if_pos rfl, re, bd_eq, nm_eq, wL_sl, if_pos rfl, ha, bd_eq]
  refine ⟨vp_updL l 0 X, ?_, fun v hv => ?_⟩
  · by_cases a : aggV κ p = none
    · rw [if_pos a, if_pos rfl, a]
      rfl
    · rw [if_neg a, if_neg (show ¬ (1 : Int32) = 0 by decide)]
      cases q : aggV κ p with
      | none => exact absurd q a
      | some v => rfl
  · rw [updL_at, if_pos rfl, hX]
    unfold aggV at hv
    by_cases c : κ < 2
    · rw [if_pos c] at hv ⊢
      cases hv; rfl
    · rw [if_neg c] at hv ⊢
      by_cases c1 : p.1 = 0
      · rw [if_pos c1] at hv; cases hv
      · rw [if_neg c1] at hv ⊢
        by_cases c5 : κ = 5
        · rw [if_pos c5] at hv ⊢; cases hv; rfl
        · rw [if_neg c5] at hv ⊢; cases hv; rfl

