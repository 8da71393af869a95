/-! the class's rows compared (own rows) -/
def CX (V : Nat → Nat → Option Int64) (ni k : Nat) (σ : St) : Prop := ∀ r, r < k → (∃ nb : Nat, nb < 2 ^ ni ∧ ga σ 20 r = nI nb ∧ ∀ i, i < ni → (nb.testBit i = true ↔ V r i = none)) ∧ ∀ i, i < ni → gb σ 2 (6 * r + i) = (V r i).getD 0
theorem bits6 : ∀ nb, nb < 64 → ∀ i, i < 6 → (((nI nb >>> (nI i &&& 31)) &&& 1 = 0) ↔ nb.testBit i = false) := by decide +kernel
theorem x_null {N : Nat} {V : Nat → Nat → Option Int64} {ni k r i : Nat} {σ : St} (h : CX V ni k σ) (h6 : ni ≤ 6) (hk : k ≤ 200) (hr : r < k) (hi : i < ni) : f_A_isNullAt N σ (nI r) (nI i) = some (if V r i = none then 1 else 0, σ) := by
  obtain ⟨⟨nb, b1, b2, b3⟩, -⟩ := h r hr
  have b64 : nb < 64 := Nat.lt_of_lt_of_le b1 (Nat.pow_le_pow_right (n := 2) (by decide) h6)
  unfold f_A_isNullAt
  rw [ckb_nI (show r < 200 by omega) (by decide), nI_clamp (by omega), b2]
  have e := bits6 nb b64 i (by omega)
  have e2 := b3 i hi
  by_cases c : V r i = none
  · rw [if_pos c, if_neg]
    intro z
    have := e.mp z
    rw [e2.mpr c] at this
    cases this
  · rw [if_neg c, if_pos]
    apply e.mpr
    cases q : nb.testBit i
    · rfl
    · exact absurd (e2.mp q) c
def cs (z : Int) : Int32 := if z < 0 then -1 else if z = 0 then 0 else 1
theorem x_cmpI {N : Nat} {V : Nat → Nat → Option Int64} {ni k a b i : Nat} {σ : St} (h : CX V ni k σ) (h6 : ni ≤ 6) (hk : k ≤ 200) (ha : a < k) (hb : b < k) (hi : i < ni) : f_A_compareItem N σ (nI a) (nI b) (nI i) = some (cs (c3 (V a i) (V b i)), σ) := by
  have na := (h a ha).2 i hi
  have nb := (h b hb).2 i hi
  unfold f_A_compareItem f_A_compareItem_26 f_A_compareItem_40 f_L_compare
  rw [x_null h h6 hk ha hi, bd_eq, x_null h h6 hk hb hi, bd_eq, nI_6, nI_6]
  simp only [ckb_nI (show 6 * a + i < 1200 by omega) (show 1200 < 2 ^ 31 by decide), ckb_nI (show 6 * b + i < 1200 by omega) (show 1200 < 2 ^ 31 by decide), nI_clamp (show 6 * a + i < 2 ^ 31 by omega), nI_clamp (show 6 * b + i < 2 ^ 31 by omega), na, nb, cmp_ge, cmp_eq]
  have n10 : ¬ (1 : Int32) = 0 := by decide
  cases qa : V a i with
  | none =>
    cases qb : V b i with
    | none => simp only [if_true, n10, if_false]; rfl
    | some y => simp only [if_true, n10, if_false, reduceCtorEq]; rfl
  | some x =>
    cases qb : V b i with
    | none => simp only [if_true, n10, if_false, reduceCtorEq]; rfl
    | some y =>
      simp only [if_true, n10, if_false, reduceCtorEq, Option.getD_some]
      show _ = some (cs (if x < y then -1 else if y < x then 1 else 0), σ)
      by_cases h1 : x < y
      · rw [if_pos h1, if_neg (show ¬ y ≤ x by rw [i64_le]; rw [i64_lt] at h1; omega), bd_eq]; rfl
      · rw [if_neg h1, if_pos (show y ≤ x by rw [i64_le]; rw [i64_lt] at h1; omega)]
        by_cases h2 : y < x
        · rw [if_pos h2, if_neg (show ¬ x = y from fun z => by rw [z] at h2; rw [i64_lt] at h2; omega), bd_eq]; rfl
        · rw [if_neg h2, if_pos (show x = y by rw [i64_eq]; rw [i64_lt] at h1 h2; omega), bd_eq]; rfl
theorem x_compare (N : Nat) (hN : 100 < N) {V : Nat → Nat → Option Int64} {ni no k a b : Nat} {oI : Nat → Nat} {oD : Nat → Prop} {σ : St} (h : CX V ni k σ) (h6 : ni ≤ 6) (h4 : no ≤ 4) (hk : k ≤ 200) (ho : gi σ 8 = nI no) (hI : ∀ q, q < no → oI q < ni ∧ ga σ 18 q = nI (oI q) ∧ (ga σ 19 q = 0 ↔ ¬ oD q)) (ha : a < k) (hb : b < k) :
    ∃ r, f_A_compare N σ (nI a) (nI b) = some (r, σ) ∧ (r ≤ 0 ↔ ¬ bfr V oI oD b a no 0) := by
  have key : ∀ (d q fu : Nat), q + d = no → d < fu → ∃ r, f_A_compare_3 N fu σ (nI a) (nI b) (nI q) = some (r, σ) ∧ (r ≤ 0 ↔ ¬ bfr V oI oD b a d q) := by
    intro d
    induction d with
    | zero =>
      intro q fu hq hfu
      obtain ⟨fu, rfl⟩ : ∃ q, fu = q + 1 := ⟨fu - 1, by omega⟩
      have e0 : f_A_compare_3 N (fu + 1) σ (nI a) (nI b) (nI q) = f_A_compare_3_b N (f_A_compare_3 N fu) σ (nI a) (nI b) (nI q) := rfl
      rw [e0]
      unfold f_A_compare_3_b
      rw [ho, if_pos (nI_le (by omega) (by omega))]
      exact ⟨0, rfl, fun _ z => z, fun _ => by decide⟩
    | succ d ih =>
      intro q fu hq hfu
      obtain ⟨fu, rfl⟩ : ∃ q, fu = q + 1 := ⟨fu - 1, by omega⟩
      have e0 : f_A_compare_3 N (fu + 1) σ (nI a) (nI b) (nI q) = f_A_compare_3_b N (f_A_compare_3 N fu) σ (nI a) (nI b) (nI q) := rfl
      obtain ⟨i1, i2, i3⟩ := hI q (by omega)
      rw [e0]
      unfold f_A_compare_3_b
      rw [ho, if_neg (nI_ge (by omega) (by omega)), ckb_nI (show q < 4 by omega) (by decide), nI_clamp (show q < 2 ^ 31 by omega), i2, x_cmpI h h6 hk ha hb i1, bd_eq, ckb_nI (show q < 4 by omega) (by decide), nI_1]
      have eb : bfr V oI oD b a (d + 1) q ↔ ((c3 (V b (oI q)) (V a (oI q)) = 0 ∧ bfr V oI oD b a d (q + 1)) ∨ (c3 (V b (oI q)) (V a (oI q)) < 0 ∧ ¬ oD q) ∨ (0 < c3 (V b (oI q)) (V a (oI q)) ∧ oD q)) := Iff.rfl
      rw [eb, c3_anti (V a (oI q)) (V b (oI q))]
      unfold cs
      rcases Int.lt_trichotomy (c3 (V a (oI q)) (V b (oI q))) 0 with z | z | z
      · rw [if_pos z, if_neg (show ¬ (-1 : Int32) = 0 by decide)]
        by_cases c : ga σ 19 q = 0
        · rw [if_pos c]
          refine ⟨-1, rfl, fun _ u => ?_, fun _ => by decide⟩
          rcases u with ⟨u, -⟩ | ⟨u, -⟩ | ⟨-, u⟩
          · omega
          · omega
          · exact absurd u (i3.mp c)
        · rw [if_neg c]
          exact ⟨_, rfl, fun u => absurd u (by decide), fun u => absurd (Or.inr (Or.inr ⟨by omega, Classical.not_not.mp (fun y => c (i3.mpr y))⟩)) u⟩
      · rw [z, if_pos (show (if (0 : Int) < 0 then (-1 : Int32) else if (0 : Int) = 0 then 0 else 1) = 0 by decide)]
        obtain ⟨r, z1, z2⟩ := ih (q + 1) fu (by omega) (by omega)
        refine ⟨r, z1, z2.trans ?_⟩
        simp
      · rw [if_neg (show ¬ c3 (V a (oI q)) (V b (oI q)) < 0 by omega), if_neg (show ¬ c3 (V a (oI q)) (V b (oI q)) = 0 by omega), if_neg (show ¬ (1 : Int32) = 0 by decide)]
        by_cases c : ga σ 19 q = 0
        · rw [if_pos c]
          exact ⟨1, rfl, fun u => absurd u (by decide), fun u => absurd (Or.inr (Or.inl ⟨by omega, i3.mp c⟩)) u⟩
        · rw [if_neg c]
          refine ⟨_, rfl, fun _ u => ?_, fun _ => by decide⟩
          rcases u with ⟨u, -⟩ | ⟨-, u⟩ | ⟨u, -⟩
          · omega
          · exact absurd (i3.mpr u) c
          · omega
  exact key no 0 N (by omega) (by omega)
theorem x_rep (N : Nat) (hN : 300 < N) {V : Nat → Nat → Option Int64} {ni k a : Nat} {σ : St} (h : CX V ni k σ) (h6 : ni ≤ 6) (hk : k ≤ 200) (hi : gi σ 12 = nI ni) (ha : a < k) : ∃ r, f_A_isRepeated N σ (nI a) = some (r, σ) ∧ (r = 0 ↔ ∀ y, y < a → ¬ ∀ i, i < ni → V y i = V a i) := by
  have inner : ∀ (k2 : St → Int32 → Int32 → Option (Int32 × St)) (b : Nat), b < k → ∀ (d i fu : Nat) (s : Int32), i + d = ni → d < fu → (s = 0 ∨ s = 1) → ∃ r, (r = 0 ∨ r = 1) ∧ f_A_isRepeated_31 N k2 fu σ (nI a) (nI b) s (nI i) = f_A_isRepeated_84 N k2 σ (nI a) (nI b) r ∧ (r = 1 ↔ s = 1 ∧ ∀ j, i ≤ j → j < ni → (V b j).getD 0 = (V a j).getD 0) := by
    intro k2 b hb d
    induction d with
    | zero =>
      intro i fu s hd hfu hs
      obtain ⟨fu, rfl⟩ : ∃ q, fu = q + 1 := ⟨fu - 1, by omega⟩
      have e0 : f_A_isRepeated_31 N k2 (fu + 1) σ (nI a) (nI b) s (nI i) = f_A_isRepeated_31_b N k2 (f_A_isRepeated_31 N k2 fu) σ (nI a) (nI b) s (nI i) := rfl
      refine ⟨s, hs, ?_, fun z => ⟨z, fun j h1 h2 => by omega⟩, fun z => z.1⟩
      rw [e0]
      unfold f_A_isRepeated_31_b
      rw [hi, if_pos (nI_le (by omega) (by omega))]
      split <;> rfl
    | succ d ih =>
      intro i fu s hd hfu hs
      obtain ⟨fu, rfl⟩ : ∃ q, fu = q + 1 := ⟨fu - 1, by omega⟩
      have e0 : f_A_isRepeated_31 N k2 (fu + 1) σ (nI a) (nI b) s (nI i) = f_A_isRepeated_31_b N k2 (f_A_isRepeated_31 N k2 fu) σ (nI a) (nI b) s (nI i) := rfl
      rw [e0]
      unfold f_A_isRepeated_31_b
      by_cases c : s = 0
      · rw [if_pos c]
        exact ⟨s, hs, rfl, fun z => absurd z (by rw [c]; decide), fun z => z.1⟩
      · have s1 : s = 1 := by rcases hs with z | z; exact absurd z c; exact z
        rw [if_neg c, hi, if_neg (nI_ge (by omega) (by omega)), nI_6, nI_6, ckb_nI (show 6 * b + i < 1200 by omega) (by decide), ckb_nI (show 6 * a + i < 1200 by omega) (by decide), nI_clamp (show 6 * b + i < 2 ^ 31 by omega), nI_clamp (show 6 * a + i < 2 ^ 31 by omega), (h a ha).2 i (by omega), (h b hb).2 i (by omega), nI_1]
        simp only [cmp_eq]
        by_cases c2 : (V b i).getD 0 = (V a i).getD 0
        · rw [if_pos c2]
          obtain ⟨r, z1, z2, z3⟩ := ih (i + 1) fu 1 (by omega) (by omega) (Or.inr rfl)
          refine ⟨r, z1, z2, z3.trans ⟨fun z => ⟨s1, fun j h1 h2 => ?_⟩, fun z => ⟨rfl, fun j h1 h2 => z.2 j (by omega) h2⟩⟩⟩
          by_cases e : j = i
          · subst e; exact c2
          · exact z.2 j (by omega) h2
        · rw [if_neg c2]
          obtain ⟨r, z1, z2, z3⟩ := ih (i + 1) fu 0 (by omega) (by omega) (Or.inl rfl)
          exact ⟨r, z1, z2, z3.trans ⟨fun z => absurd z.1 (by decide), fun z => absurd (z.2 i (Nat.le_refl _) (by omega)) c2⟩⟩
  have sameb : ∀ b, b < k → ((ga σ 20 b = ga σ 20 a ∧ ∀ j, j < ni → (V b j).getD 0 = (V a j).getD 0) ↔ ∀ i, i < ni → V b i = V a i) := by
    intro b hb
    obtain ⟨⟨x, x1, x2, x3⟩, -⟩ := h b hb
    obtain ⟨⟨y, y1, y2, y3⟩, -⟩ := h a ha
    have x64 : x < 64 := Nat.lt_of_lt_of_le x1 (Nat.pow_le_pow_right (n := 2) (by decide) h6)
    have y64 : y < 64 := Nat.lt_of_lt_of_le y1 (Nat.pow_le_pow_right (n := 2) (by decide) h6)
    rw [x2, y2, nI_eq (by omega) (by omega)]
    constructor
    · rintro ⟨rfl, z⟩ i hi'
      have := z i hi'
      by_cases c : x.testBit i = true
      · rw [(x3 i hi').mp c, (y3 i hi').mp c]
      · have n1 : V b i ≠ none := fun u => c ((x3 i hi').mpr u)
        have n2 : V a i ≠ none := fun u => c ((y3 i hi').mpr u)
        cases q1 : V b i with
        | none => exact absurd q1 n1
        | some u =>
          cases q2 : V a i with
          | none => exact absurd q2 n2
          | some v => rw [q1, q2] at this; simp only [Option.getD_some] at this; rw [this]
    · intro z
      refine ⟨Nat.eq_of_testBit_eq (fun j => ?_), fun j hj => by rw [z j hj]⟩
      by_cases c : j < ni
      · have e1 := x3 j c
        have e2 := y3 j c
        rw [z j c] at e1
        cases q1 : x.testBit j <;> cases q2 : y.testBit j
        · rfl
        · rw [e1.mpr (e2.mp q2)] at q1; cases q1
        · rw [e2.mpr (e1.mp q1)] at q2; cases q2
        · rfl
      · rw [Nat.testBit_lt_two_pow (Nat.lt_of_lt_of_le x1 (Nat.pow_le_pow_right (by decide) (by omega))), Nat.testBit_lt_two_pow (Nat.lt_of_lt_of_le y1 (Nat.pow_le_pow_right (by decide) (by omega)))]
  have outer : ∀ (d b fu : Nat), b + d = a → d < fu → ∃ r, f_A_isRepeated_2 N fu σ (nI a) (nI b) = some (r, σ) ∧ (r = 0 ↔ ∀ y, b ≤ y → y < a → ¬ ∀ i, i < ni → V y i = V a i) := by
    intro d
    induction d with
    | zero =>
      intro b fu hb hfu
      obtain ⟨fu, rfl⟩ : ∃ q, fu = q + 1 := ⟨fu - 1, by omega⟩
      have e0 : f_A_isRepeated_2 N (fu + 1) σ (nI a) (nI b) = f_A_isRepeated_2_b N (f_A_isRepeated_2 N fu) σ (nI a) (nI b) := rfl
      rw [e0]
      unfold f_A_isRepeated_2_b
      rw [if_pos (nI_le (by omega) (by omega))]
      exact ⟨0, rfl, fun _ y h1 h2 => by omega, fun _ => rfl⟩
    | succ d ih =>
      intro b fu hb hfu
      obtain ⟨fu, rfl⟩ : ∃ q, fu = q + 1 := ⟨fu - 1, by omega⟩
      have e0 : f_A_isRepeated_2 N (fu + 1) σ (nI a) (nI b) = f_A_isRepeated_2_b N (f_A_isRepeated_2 N fu) σ (nI a) (nI b) := rfl
      rw [e0]
      unfold f_A_isRepeated_2_b
      rw [if_neg (nI_ge (by omega) (by omega)), ckb_nI (show b < 200 by omega) (by decide), ckb_nI (show a < 200 by omega) (by decide), nI_clamp (show b < 2 ^ 31 by omega), nI_clamp (show a < 2 ^ 31 by omega)]
      have fin : ∀ s : Int32, (s = 0 ∨ s = 1) → (s = 1 ↔ ga σ 20 b = ga σ 20 a) → ∃ r, f_A_isRepeated_31 N (f_A_isRepeated_2 N fu) N σ (nI a) (nI b) s 0 = some (r, σ) ∧ (r = 0 ↔ ∀ y, b ≤ y → y < a → ¬ ∀ i, i < ni → V y i = V a i) := by
        intro s hs hb'
        obtain ⟨r, r1, r2, r3⟩ := inner (f_A_isRepeated_2 N fu) b (by omega) ni 0 N s (by omega) (by omega) hs
        have r2 : f_A_isRepeated_31 N (f_A_isRepeated_2 N fu) N σ (nI a) (nI b) s 0 = _ := r2
        rw [r2]
        have r4 : r = 1 ↔ ∀ i, i < ni → V b i = V a i := by
          rw [r3, hb', ← sameb b (by omega)]
          exact ⟨fun z => ⟨z.1, fun j hj => z.2 j (by omega) hj⟩, fun z => ⟨z.1, fun j _ hj => z.2 j hj⟩⟩
        unfold f_A_isRepeated_84
        by_cases c : r = 0
        · rw [if_pos c, nI_1]
          obtain ⟨q, z1, z2⟩ := ih (b + 1) fu (by omega) (by omega)
          refine ⟨q, z1, z2.trans ⟨fun z y h1 h2 => ?_, fun z y h1 h2 => z y (by omega) h2⟩⟩
          by_cases e : y = b
          · subst e
            exact fun u => by have := r4.mpr u; rw [c] at this; exact absurd this (by decide)
          · exact z y (by omega) h2
        · have r11 : r = 1 := by rcases r1 with z | z; exact absurd z c; exact z
          rw [if_neg c]
          exact ⟨1, rfl, fun z => absurd z (by decide), fun z => absurd (r4.mp r11) (z b (Nat.le_refl _) (by omega))⟩
      by_cases c : ga σ 20 b = ga σ 20 a
      · rw [if_pos c]
        exact fin 1 (Or.inr rfl) ⟨fun _ => c, fun _ => rfl⟩
      · rw [if_neg c]
        exact fin 0 (Or.inl rfl) ⟨fun z => absurd z (by decide), fun z => absurd z c⟩
  obtain ⟨r, z1, z2⟩ := outer a 0 N (by omega) (by omega)
  exact ⟨r, z1, z2.trans ⟨fun z y hy => z y (by omega) hy, fun z y _ hy => z y hy⟩⟩

