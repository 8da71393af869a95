/-! what a tree comes to: an error, none, or a number; truths are the numbers 0, 1, 2 (own rows) -/
abbrev Rs : Type := Except Int32 (Option Int64)
abbrev okF (v : Int64) : Prop := (-1000000000000000 : Int64) ≤ v ∧ v ≤ 1000000000000000
def sz64 (v : Int64) : Int64 := if (0 : Int64) ≤ v then v else -v
def chk (v : Int64) : Rs := if okF v then .ok (some v) else .error (-21)
def rk (k : Nat) (x y : Int64) : Rs :=
  if k = 0 then chk (x + y) else if k = 1 then chk (x - y) else if k = 2 then (if x = 0 ∨ sz64 y ≤ 1000000000000000 / sz64 x then .ok (some (x * y)) else .error (-21))
  else if y = 0 then .error (-20) else if k = 3 then chk (x / y) else chk (x - x / y * y)
def cp (k : Nat) (x y : Int64) : Int64 :=
  if k = 5 then (if x = y then 1 else 0) else if k = 6 then (if x = y then 0 else 1) else if k = 7 then (if x < y then 1 else 0) else if x ≤ y then 1 else 0
def cmb (k : Nat) (a b : Option Int64) : Rs :=
  if k = 9 then .ok (some (if a = some 0 ∨ b = some 0 then 0 else if a = some 1 ∧ b = some 1 then 1 else 2))
  else if k = 10 then .ok (some (if a = some 1 ∨ b = some 1 then 1 else if a = some 0 ∧ b = some 0 then 0 else 2))
  else match a, b with
    | some x, some y => if k < 5 then rk k x y else .ok (some (cp k x y))
    | _, _ => if k < 5 then .ok none else .ok (some 2)
def un (k : Nat) : Rs → Rs
  | .error e => .error e
  | .ok v => .ok (some (if k = 11 then (if v = some 1 then 0 else if v = some 0 then 1 else 2) else if v = none then 1 else 0))
def stopsAt (k : Nat) (a : Option Int64) : Prop := (k = 9 ∧ a = some 0) ∨ (k = 10 ∧ a = some 1)
def bi (k : Nat) (x y : Rs) : Rs := match x with
  | .error e => .error e
  | .ok a => if (k = 9 ∧ a = some 0) ∨ (k = 10 ∧ a = some 1) then .ok a else match y with
    | .error e => .error e
    | .ok b => cmb k a b
def orL (o : Option (Option Int64)) (r : Rs) : Rs := match o with
  | some v => .ok v
  | none => r
def sem (L : Tr → Option (Option Int64)) (C A : Nat → Option Int64) : Tr → Rs
  | .num 0 => orL (L (.num 0)) (.ok none)
  | .num (n + 1) => orL (L (.num (n + 1))) (.ok (some (vl n)))
  | .var b => orL (L (.var b)) (.ok (C b))
  | .mulL c a => orL (L (.mulL c a)) (.ok (A (c % 8)))
  | .mulR a k => orL (L (.mulR a k)) (un k (sem L C A a))
  | .add (.mulL k a) b => orL (L (.add (.mulL k a) b)) (bi k (sem L C A a) (sem L C A b))
  | _ => .ok none
def tall (P Q : Nat → Prop) : Tr → Prop
  | .var b => P b
  | .mulL c a => Q (c % 8) ∧ tall P Q a
  | .mulR a _ => tall P Q a
  | .add (.mulL _ a) b => tall P Q a ∧ tall P Q b
  | _ => True
def vc : Rs → Int32
  | .error e => e
  | .ok none => 0
  | .ok (some _) => 1
def tc : Rs → Int32
  | .error e => e
  | .ok none => 2
  | .ok (some v) => v.toInt32
/-- errors are below 0, truths 0 to 2, numbers not too far -/
def Rok (t : Tr) (r : Rs) : Prop := (∀ e, r = .error e → e = -20 ∨ e = -21) ∧ (tru t → ∀ v, r = .ok v → v = some 0 ∨ v = some 1 ∨ v = some 2) ∧ (¬ tru t → ∀ v, r = .ok (some v) → okF v)
theorem F_toInt : (1000000000000000 : Int64).toInt = 1000000000000000 ∧ (-1000000000000000 : Int64).toInt = -1000000000000000 := by decide
theorem okF_iff {v : Int64} : okF v ↔ -1000000000000000 ≤ v.toInt ∧ v.toInt ≤ 1000000000000000 := by
  unfold okF
  rw [i64_le, i64_le, F_toInt.1, F_toInt.2]
theorem i64_toInt_of {v : Int64} {z : Int} (h : v.toInt = z.bmod (2 ^ 64)) (h1 : -2 ^ 62 ≤ z) (h2 : z ≤ 2 ^ 62) : v.toInt = z := by
  rw [h]
  exact Int.bmod_eq_of_le (by omega) (by omega)
theorem sz_toInt {v : Int64} (h : okF v) : (sz64 v).toInt = v.toInt.natAbs := by
  rw [okF_iff] at h
  unfold sz64
  by_cases c : (0 : Int64) ≤ v
  · rw [if_pos c]
    rw [i64_le, Int64.toInt_zero] at c
    omega
  · rw [if_neg c]
    rw [i64_le, Int64.toInt_zero] at c
    have := i64_toInt_of (v := -v) (z := -v.toInt) (Int64.toInt_neg v) (by omega) (by omega)
    omega
theorem mul_ok {x y : Int64} (hx : okF x) (hy : okF y) (h : x = 0 ∨ sz64 y ≤ 1000000000000000 / sz64 x) : okF (x * y) := by
  rcases h with rfl | h
  · simp; decide
  · by_cases c : x = 0
    · subst c; simp; decide
    · have e1 := sz_toInt hx
      have e2 := sz_toInt hy
      have x0 : x.toInt ≠ 0 := fun z => c (by rw [i64_eq, Int64.toInt_zero]; exact z)
      rw [i64_le, e2, Int64.toInt_div, e1, F_toInt.1] at h
      rw [okF_iff] at hx hy
      obtain ⟨a, ha⟩ : ∃ a : Nat, x.toInt.natAbs = a := ⟨_, rfl⟩
      obtain ⟨b, hb⟩ : ∃ b : Nat, y.toInt.natAbs = b := ⟨_, rfl⟩
      rw [ha, hb] at h
      have a0 : 0 < a := by omega
      have q : ((1000000000000000 : Int).tdiv (a : Int)) = ((1000000000000000 / a : Nat) : Int) := by
        rw [Int.tdiv_eq_ediv_of_nonneg (by omega)]; rfl
      have hle : 1000000000000000 / a ≤ 1000000000000000 := Nat.div_le_self _ _
      obtain ⟨qq, hqq⟩ : ∃ qq : Nat, 1000000000000000 / a = qq := ⟨_, rfl⟩
      rw [q, hqq] at h
      rw [hqq] at hle
      rw [Int.bmod_eq_of_le (by omega) (by omega)] at h
      have hb2 : b ≤ 1000000000000000 / a := by omega
      have hm : b * a ≤ 1000000000000000 := (Nat.le_div_iff_mul_le a0).mp hb2
      have hp : (x.toInt * y.toInt).natAbs ≤ 1000000000000000 := by
        rw [Int.natAbs_mul, ha, hb, Nat.mul_comm]; exact hm
      rw [okF_iff]
      have := i64_toInt_of (v := x * y) (z := x.toInt * y.toInt) (Int64.toInt_mul x y) (by omega) (by omega)
      omega
theorem rk_ok {k : Nat} {x y : Int64} (hx : okF x) (hy : okF y) : (∀ e, rk k x y = .error e → e = -20 ∨ e = -21) ∧ (∀ v, rk k x y = .ok v → ∃ z, v = some z ∧ okF z) := by
  have ck : ∀ v, (∀ e, chk v = .error e → e = -20 ∨ e = -21) ∧ (∀ u, chk v = .ok u → ∃ z, u = some z ∧ okF z) := by
    intro v
    unfold chk
    by_cases c : okF v
    · rw [if_pos c]; exact ⟨fun e q => (by cases q), fun u q => (by cases q; exact ⟨v, rfl, c⟩)⟩
    · rw [if_neg c]; exact ⟨fun e q => (by cases q; exact Or.inr rfl), fun u q => (by cases q)⟩
  unfold rk
  split
  · exact ck _
  · split
    · exact ck _
    · split
      · split
        · rename_i h
          exact ⟨fun e q => (by cases q), fun u q => (by cases q; exact ⟨_, rfl, mul_ok hx hy h⟩)⟩
        · exact ⟨fun e q => (by cases q; exact Or.inr rfl), fun u q => (by cases q)⟩
      · split
        · exact ⟨fun e q => (by cases q; exact Or.inl rfl), fun u q => (by cases q)⟩
        · split
          · exact ck _
          · exact ck _

