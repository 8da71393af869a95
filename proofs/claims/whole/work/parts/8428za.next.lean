/-! groups in step: one slot more of the row (own rows) -/
theorem acc_cnt {K : Nat → Nat} {D : Nat → Bool} {gr : Nat → Nat} {arg : Nat → Nat → Option Int64} {k q s : Nat} (hg : gr k = q) (hc : cntB D gr arg k s = true) : acc K D gr arg q s (k + 1) = ((acc K D gr arg q s k).1 + 1, if (acc K D gr arg q s k).1 = 0 then (arg k s).getD 0 else comb (K s) (acc K D gr arg q s k).2 ((arg k s).getD 0)) := by
  show (if _ then _ else _) = _
  rw [if_pos ⟨hg, hc⟩]
theorem acc_unc {K : Nat → Nat} {D : Nat → Bool} {gr : Nat → Nat} {arg : Nat → Nat → Option Int64} {k q s : Nat} (hc : ¬ cntB D gr arg k s = true) : acc K D gr arg q s (k + 1) = acc K D gr arg q s k := by
  show (if _ then _ else _) = _
  rw [if_neg (fun z => hc z.2)]
theorem acc_zero {K : Nat → Nat} {D : Nat → Bool} {gr : Nat → Nat} {arg : Nat → Nat → Option Int64} {q s : Nat} : ∀ R, (acc K D gr arg q s R).1 = 0 → (acc K D gr arg q s R).2 = 0
  | 0, _ => rfl
  | r + 1, h => by
    by_cases c : gr r = q ∧ cntB D gr arg r s = true
    · rw [acc_cnt c.1 c.2] at h
      exact absurd h (Nat.succ_ne_zero _)
    · have e : acc K D gr arg q s (r + 1) = acc K D gr arg q s r := by show (if _ then _ else _) = _; rw [if_neg c]
      rw [e] at h ⊢
      exact acc_zero r h
/-- sums: what M adds -/
theorem acc_sum {K : Nat → Nat} {D : Nat → Bool} {gr : Nat → Nat} {arg : Nat → Nat → Option Int64} {k q s : Nat} {v : Int64} (hK : K s = 2 ∨ K s = 5) (hg : gr k = q) (hc : cntB D gr arg k s = true) (hv : arg k s = some v) : (acc K D gr arg q s (k + 1)).2 = (acc K D gr arg q s k).2 + v := by
  rw [acc_cnt hg hc, hv]
  show (if _ then _ else _) = _
  by_cases c : (acc K D gr arg q s k).1 = 0
  · rw [if_pos c, acc_zero k c]
    show v = 0 + v
    rw [Int64.zero_add]
  · rw [if_neg c]
    unfold comb
    rw [if_pos hK]
    rfl
theorem acc_ok {K : Nat → Nat} {D : Nat → Bool} {gr : Nat → Nat} {arg : Nat → Nat → Option Int64} {k q s : Nat} {v : Int64} (hK : ¬ (K s = 2 ∨ K s = 5)) (hg : gr k = q) (hc : cntB D gr arg k s = true) (hv : arg k s = some v) (ov : okF v) (ot : okF (acc K D gr arg q s k).2) : okF (acc K D gr arg q s (k + 1)).2 := by
  rw [acc_cnt hg hc, hv]
  show okF (if _ then _ else _)
  split
  · exact ov
  · unfold comb
    rw [if_neg hK]
    split
    · split
      · exact ov
      · exact ot
    · split
      · split
        · exact ot
        · exact ov
      · exact ot
/-- one slot more -/
theorem GF.next {ng U k i q GX GM : Nat} {K : Nat → Nat} {D : Nat → Bool} {Q : (Nat → Int32) → (Nat → Option Int64) → Prop} {gr : Nat → Nat} {ky arg : Nat → Nat → Option Int64} {pos : Nat → Nat → Int32} {σ ρ σ' ρ' : St} {v : Option Int64} (F : GF ng U K D Q (k + 1) k i GX GM gr ky arg pos σ ρ) (hi : i < 8) (hg : gr k = q) (hu : U.testBit i = true)
    (x1 : ∀ r, gi σ' r = gi σ r) (xa : ∀ r, r ≠ 29 → r ≠ 30 → ga σ' r = ga σ r) (xb : ∀ r, r ≠ 4 → r ≠ 5 → gb σ' r = gb σ r) (ax : AX K D gr (upA arg k i v) (k + 1) GX σ')
    (y1 : gi ρ' 17 = gi ρ 17) (y2 : gi ρ' 16 = gi ρ 16) (y3 : ga ρ' 20 = ga ρ 20) (y4 : ga ρ' 22 = ga ρ 22) (y5 : gb ρ' 4 = gb ρ 4)
    (yn : ∀ z, z ≠ 8 * k + i → ga ρ' 21 z = ga ρ 21 z) (yv : ∀ z, z ≠ 8 * k + i → gb ρ' 3 z = gb ρ 3 z) (ye : ArgE K (upA arg k i v) ρ' k i)
    (ys : ∀ z, z ≠ 8 * q + i → gb ρ' 5 z = gb ρ 5 z) (yq : K i = 2 ∨ K i = 5 → gb ρ' 5 (8 * q + i) = (acc K D gr (upA arg k i v) q i (k + 1)).2)
    (ok : okF (acc K D gr (upA arg k i v) q i (k + 1)).2) : GF ng U K D Q (k + 1) k (i + 1) GX GM gr ky (upA arg k i v) pos σ' ρ' := by
  obtain ⟨f1, f2, f3, f4, f5, f6, f7, f8, f9, f10, f11, f12, f13, f14⟩ := F
  have hacc : ∀ p s, ¬ (p = q ∧ s = i) → acc K D gr (upA arg k i v) p s (k + 1) = acc K D gr arg p s (k + 1) := by
    intro p s hn
    by_cases c : s = i
    · subst c
      have hp : ¬ gr k = p := fun z => hn ⟨z.symm.trans hg, rfl⟩
      rw [acc_other (Or.inl hp), acc_other (Or.inl hp)]
      exact acc_upk
    · exact acc_up c (k + 1)
  refine ⟨(x1 _).trans f1, (x1 _).trans f2, y1.trans f3, y2.trans f4, f5, fun r hr => by rw [y3]; exact f6 r hr, fun p hp => ?_, ?_, fun r hr => by rw [xa 28 (by decide) (by decide)]; exact f9 r hr, ax, fun r s hr hs => ?_, fun p s hp hs hus hks => ?_, fun p s hs => ?_, f14⟩
  · have := f7 p hp
    unfold KX KM at this ⊢
    rw [xa 24 (by decide) (by decide), xb 3 (by decide) (by decide), y4, y5]
    exact this
  · have := f8
    unfold Chn Fst Nxt at this ⊢
    rw [xa 25 (by decide) (by decide), xa 26 (by decide) (by decide), xa 27 (by decide) (by decide)]
    exact this
  · by_cases c : r = k ∧ s = i
    · obtain ⟨rfl, rfl⟩ := c
      exact ⟨fun _ => ye, fun z => absurd (show U.testBit s = true ∧ (r < r ∨ s < s + 1) from ⟨hu, Or.inr (Nat.lt_succ_self _)⟩) z⟩
    · have ne : ¬ 8 * r + s = 8 * k + i := by omega
      obtain ⟨z1, z2⟩ := f11 r s hr hs
      unfold ArgE at z1 ⊢
      rw [yn _ ne, yv _ ne, upA_ne c]
      exact ⟨fun z => z1 ⟨z.1, by omega⟩, fun z => z2 (fun y => z ⟨y.1, by omega⟩)⟩
  · by_cases c : p = q ∧ s = i
    · obtain ⟨rfl, rfl⟩ := c
      exact yq hks
    · have ne : ¬ 8 * p + s = 8 * q + i := by omega
      rw [hacc p s c, ys _ ne]
      exact f12 p s hp hs hus hks
  · by_cases c : p = q ∧ s = i
    · obtain ⟨rfl, rfl⟩ := c
      exact ok
    · rw [hacc p s c]
      exact f13 p s hs
theorem GF.skip {ng U k i GX GM : Nat} {K : Nat → Nat} {D : Nat → Bool} {Q : (Nat → Int32) → (Nat → Option Int64) → Prop} {gr : Nat → Nat} {ky arg : Nat → Nat → Option Int64} {pos : Nat → Nat → Int32} {σ ρ : St} (F : GF ng U K D Q (k + 1) k i GX GM gr ky arg pos σ ρ) (hu : ¬ U.testBit i = true) : GF ng U K D Q (k + 1) k (i + 1) GX GM gr ky arg pos σ ρ := by
  obtain ⟨f1, f2, f3, f4, f5, f6, f7, f8, f9, f10, f11, f12, f13, f14⟩ := F
  refine ⟨f1, f2, f3, f4, f5, f6, f7, f8, f9, f10, fun r s hr hs => ?_, f12, f13, f14⟩
  obtain ⟨z1, z2⟩ := f11 r s hr hs
  have e : U.testBit s = true → ¬ s = i := fun z y => hu (y ▸ z)
  exact ⟨fun z => z1 ⟨z.1, by have := e z.1; omega⟩, fun z => z2 (fun y => z ⟨y.1, by omega⟩)⟩
/-- the row is done -/
theorem GF.done {ng U k i GX GM : Nat} {K : Nat → Nat} {D : Nat → Bool} {Q : (Nat → Int32) → (Nat → Option Int64) → Prop} {gr : Nat → Nat} {ky arg : Nat → Nat → Option Int64} {pos : Nat → Nat → Int32} {σ ρ : St} (F : GF ng U K D Q (k + 1) k i GX GM gr ky arg pos σ ρ) (hu : ∀ s, U.testBit s = true → s < i) : GF ng U K D Q (k + 1) (k + 1) 0 GX GM gr ky arg pos (si σ 19 (nI (k + 1))) ρ := by
  obtain ⟨f1, f2, f3, f4, f5, f6, f7, f8, f9, f10, f11, f12, f13, f14⟩ := F
  refine ⟨rfl, f2, f3, f4, f5, f6, f7, f8, f9, f10, fun r s hr hs => ?_, f12, f13, f14⟩
  obtain ⟨z1, z2⟩ := f11 r s hr hs
  exact ⟨fun z => z1 ⟨z.1, Or.inr (hu s z.1)⟩, fun z => z2 (fun y => z ⟨y.1, Or.inl hr⟩)⟩
theorem GF.same {ng U R k i GX GM : Nat} {K : Nat → Nat} {D : Nat → Bool} {Q : (Nat → Int32) → (Nat → Option Int64) → Prop} {gr : Nat → Nat} {ky arg : Nat → Nat → Option Int64} {pos : Nat → Nat → Int32} {σ ρ σ' ρ' : St} (F : GF ng U K D Q R k i GX GM gr ky arg pos σ ρ)
    (x1 : gi σ' 19 = gi σ 19) (x2 : gi σ' 18 = gi σ 18) (xa : ∀ r, 24 ≤ r → ga σ' r = ga σ r) (xb : ∀ r, 3 ≤ r → gb σ' r = gb σ r)
    (y1 : gi ρ' 17 = gi ρ 17) (y2 : gi ρ' 16 = gi ρ 16) (y3 : ga ρ' 20 = ga ρ 20) (y4 : ga ρ' 22 = ga ρ 22) (y6 : ga ρ' 21 = ga ρ 21) (y5 : gb ρ' 4 = gb ρ 4) (y7 : gb ρ' 3 = gb ρ 3) (y8 : gb ρ' 5 = gb ρ 5) : GF ng U K D Q R k i GX GM gr ky arg pos σ' ρ' := by
  unfold GF Chn Fst Nxt AX KX KM ArgE
  rw [x1, x2, xa 24 (by decide), xa 25 (by decide), xa 26 (by decide), xa 27 (by decide), xa 28 (by decide), xa 29 (by decide), xa 30 (by decide), xb 3 (by decide), xb 4 (by decide), xb 5 (by decide), y1, y2, y3, y4, y5, y6, y7, y8]
  exact F

