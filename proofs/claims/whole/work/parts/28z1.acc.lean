/-! groups: what counts, and what it comes to (own rows) -/
def cntB (D : Nat → Bool) (gr : Nat → Nat) (arg : Nat → Nat → Option Int64) (r s : Nat) : Bool := decide (arg r s ≠ none) && (!D s || decide (∀ i, i < r → gr i = gr r → arg i s ≠ arg r s))
def comb (kind : Nat) (t v : Int64) : Int64 := if kind = 2 ∨ kind = 5 then t + v else if kind = 3 then (if v < t then v else t) else if kind = 4 then (if v < t then t else v) else t
def acc (K : Nat → Nat) (D : Nat → Bool) (gr : Nat → Nat) (arg : Nat → Nat → Option Int64) (q s : Nat) : Nat → Nat × Int64
  | 0 => (0, 0)
  | r + 1 => if gr r = q ∧ cntB D gr arg r s = true then ((acc K D gr arg q s r).1 + 1, if (acc K D gr arg q s r).1 = 0 then (arg r s).getD 0 else comb (K s) (acc K D gr arg q s r).2 ((arg r s).getD 0)) else acc K D gr arg q s r
theorem cnt_some {D : Nat → Bool} {gr : Nat → Nat} {arg : Nat → Nat → Option Int64} {r s : Nat} (h : cntB D gr arg r s = true) : ∃ v, arg r s = some v := by
  unfold cntB at h
  simp only [Bool.and_eq_true, decide_eq_true_eq] at h
  cases q : arg r s with
  | none => exact absurd q h.1
  | some v => exact ⟨v, rfl⟩
theorem cnt_none {D : Nat → Bool} {gr : Nat → Nat} {arg : Nat → Nat → Option Int64} {r s : Nat} (h : arg r s = none) : cntB D gr arg r s = false := by
  unfold cntB
  rw [h]
  rfl
theorem cnt_congr {D : Nat → Bool} {gr gr' : Nat → Nat} {arg arg' : Nat → Nat → Option Int64} {r s : Nat} (h1 : ∀ i, i ≤ r → gr' i = gr i) (h2 : ∀ i, i ≤ r → arg' i s = arg i s) : cntB D gr' arg' r s = cntB D gr arg r s := by
  unfold cntB
  rw [h1 r (Nat.le_refl _), h2 r (Nat.le_refl _)]
  congr 2
  apply decide_eq_decide.mpr
  constructor
  · intro z i hi
    rw [← h1 i (by omega), ← h2 i (by omega)]
    exact z i hi
  · intro z i hi
    rw [h1 i (by omega), h2 i (by omega)]
    exact z i hi
theorem acc_congr {K : Nat → Nat} {D : Nat → Bool} {gr gr' : Nat → Nat} {arg arg' : Nat → Nat → Option Int64} {q s : Nat} : ∀ (R : Nat), (∀ i, i < R → gr' i = gr i) → (∀ i, i < R → arg' i s = arg i s) → acc K D gr' arg' q s R = acc K D gr arg q s R
  | 0, _, _ => rfl
  | r + 1, h1, h2 => by
    have ih := acc_congr (K := K) (D := D) (q := q) (s := s) r (fun i hi => h1 i (by omega)) (fun i hi => h2 i (by omega))
    unfold acc
    rw [ih, h1 r (by omega), h2 r (by omega), cnt_congr (fun i hi => h1 i (by omega)) (fun i hi => h2 i (by omega))]
theorem acc_le {K : Nat → Nat} {D : Nat → Bool} {gr : Nat → Nat} {arg : Nat → Nat → Option Int64} {q s : Nat} : ∀ R, (acc K D gr arg q s R).1 ≤ R
  | 0 => Nat.le_refl _
  | r + 1 => by
    have := acc_le (K := K) (D := D) (gr := gr) (arg := arg) (q := q) (s := s) r
    unfold acc
    split
    · show (acc K D gr arg q s r).1 + 1 ≤ r + 1
      omega
    · omega
/-- no row of the group yet -/
theorem acc_new {K : Nat → Nat} {D : Nat → Bool} {gr : Nat → Nat} {arg : Nat → Nat → Option Int64} {q s : Nat} : ∀ R, (∀ i, i < R → gr i ≠ q) → acc K D gr arg q s R = (0, 0)
  | 0, _ => rfl
  | r + 1, h => by
    unfold acc
    rw [if_neg (fun z => h r (by omega) z.1)]
    exact acc_new r (fun i hi => h i (by omega))
theorem acc_other {K : Nat → Nat} {D : Nat → Bool} {gr : Nat → Nat} {arg : Nat → Nat → Option Int64} {q s R : Nat} (h : ¬ gr R = q ∨ arg R s = none) : acc K D gr arg q s (R + 1) = acc K D gr arg q s R := by
  show (if _ then _ else _) = _
  rw [if_neg]
  rintro ⟨z1, z2⟩
  rcases h with h | h
  · exact h z1
  · rw [cnt_none h] at z2; cases z2
/-- a kept value of an argument -/
def upA (arg : Nat → Nat → Option Int64) (k s : Nat) (v : Option Int64) : Nat → Nat → Option Int64 := fun r t => if r = k ∧ t = s then v else arg r t
theorem upA_eq {arg : Nat → Nat → Option Int64} {k s : Nat} {v : Option Int64} : upA arg k s v k s = v := by unfold upA; rw [if_pos ⟨rfl, rfl⟩]
theorem upA_ne {arg : Nat → Nat → Option Int64} {k s r t : Nat} {v : Option Int64} (h : ¬ (r = k ∧ t = s)) : upA arg k s v r t = arg r t := by unfold upA; rw [if_neg h]
def upF (f : Nat → Nat) (k v : Nat) : Nat → Nat := fun r => if r = k then v else f r
theorem upF_eq {f : Nat → Nat} {k v : Nat} : upF f k v k = v := by unfold upF; rw [if_pos rfl]
theorem upF_ne {f : Nat → Nat} {k v r : Nat} (h : ¬ r = k) : upF f k v r = f r := by unfold upF; rw [if_neg h]
/-- the value counts for the row k: by earlier rows that count -/
theorem cnt_iff {D : Nat → Bool} {gr : Nat → Nat} {arg : Nat → Nat → Option Int64} {k s : Nat} {v : Int64} (h : arg k s = some v) : cntB D gr arg k s = true ↔ (D s = false ∨ ∀ i, i < k → gr i = gr k → cntB D gr arg i s = true → arg i s ≠ some v) := by
  have e : cntB D gr arg k s = true ↔ (D s = false ∨ ∀ i, i < k → gr i = gr k → arg i s ≠ some v) := by
    unfold cntB
    rw [h]
    cases D s <;> simp
  rw [e]
  constructor
  · rintro (z | z)
    · exact Or.inl z
    · exact Or.inr (fun i hi hg _ => z i hi hg)
  · rintro (z | z)
    · exact Or.inl z
    · by_cases hD : D s = false
      · exact Or.inl hD
      · right
        intro i
        induction i using Nat.strongRecOn with
        | ind i ih =>
          intro hi hg hv
          by_cases c : cntB D gr arg i s = true
          · exact z i hi hg c hv
          · have : ∃ j, j < i ∧ gr j = gr i ∧ arg j s = some v := by
              unfold cntB at c
              rw [hv] at c
              simp only [ne_eq, reduceCtorEq, not_false_eq_true, decide_true, Bool.true_and, Bool.or_eq_true, Bool.not_eq_true', decide_eq_true_eq] at c
              exact Classical.not_not.mp (fun u => c (Or.inr (fun j hj hgj hvj => u ⟨j, hj, hgj, hvj⟩)))
            obtain ⟨j, j1, j2, j3⟩ := this
            exact ih j j1 (by omega) (j2.trans hg) j3

