/-! the mathematics: reading and writing a state, checks that hold, comparisons (own rows) -/
section ML
variable {α β γ : Type} {σ : St} {r q : Nat} {v x y : Int32} {w : Int64} {i : Int32}
theorem gi_si : gi (si σ r v) q = if q = r then v else gi σ q := rfl
theorem gi_sl : gi (sl σ r w) q = gi σ q := rfl
theorem gi_sa {f : Nat → Int32} : gi (sa σ r f) q = gi σ q := rfl
theorem gi_sb {f : Nat → Int64} : gi (sb σ r f) q = gi σ q := rfl
theorem gi_wa : gi (wa σ r i x) q = gi σ q := rfl
theorem gi_wz : gi (wz σ r i x) q = gi σ q := rfl
theorem gi_wl : gi (wl σ r i w) q = gi σ q := rfl
theorem gl_si : gl (si σ r v) q = gl σ q := rfl
theorem gl_sl : gl (sl σ r w) q = if q = r then w else gl σ q := rfl
theorem gl_sa {f : Nat → Int32} : gl (sa σ r f) q = gl σ q := rfl
theorem gl_sb {f : Nat → Int64} : gl (sb σ r f) q = gl σ q := rfl
theorem gl_wa : gl (wa σ r i x) q = gl σ q := rfl
theorem gl_wz : gl (wz σ r i x) q = gl σ q := rfl
theorem gl_wl : gl (wl σ r i w) q = gl σ q := rfl
theorem ga_si : ga (si σ r v) q = ga σ q := rfl
theorem ga_sl : ga (sl σ r w) q = ga σ q := rfl
theorem ga_sa {f : Nat → Int32} : ga (sa σ r f) q = if q = r then f else ga σ q := rfl
theorem ga_sb {f : Nat → Int64} : ga (sb σ r f) q = ga σ q := rfl
theorem ga_wa : ga (wa σ r i x) q = if q = r then upd (ga σ r) i.toNatClampNeg x else ga σ q := rfl
theorem ga_wz : ga (wz σ r i x) q = if q = r then upd (ga σ r) i.toNatClampNeg (vp_nar .boolean x) else ga σ q := rfl
theorem ga_wl : ga (wl σ r i w) q = ga σ q := rfl
theorem gb_si : gb (si σ r v) q = gb σ q := rfl
theorem gb_sl : gb (sl σ r w) q = gb σ q := rfl
theorem gb_sa {f : Nat → Int32} : gb (sa σ r f) q = gb σ q := rfl
theorem gb_sb {f : Nat → Int64} : gb (sb σ r f) q = if q = r then f else gb σ q := rfl
theorem gb_wa : gb (wa σ r i x) q = gb σ q := rfl
theorem gb_wz : gb (wz σ r i x) q = gb σ q := rfl
theorem gb_wl : gb (wl σ r i w) q = if q = r then vp_updL (gb σ r) i.toNatClampNeg w else gb σ q := rfl
theorem nm_eq {a : α} {k : α → Option β} : nm a k = k a := rfl
theorem bd_eq {a : α} {b : β} {k : α → β → Option γ} : bd (some (a, b)) k = k a b := rfl
theorem ckb_nI {n j : Nat} {k : Option α} (h : j < n) (hn : n < 2 ^ 31) : ckb (nI j) n k = k := by
  unfold ckb
  rw [if_neg (nI_in h hn)]
theorem ckb_in {n : Nat} {k : Option α} (h : vp_in i n) : ckb i n k = k := by
  unfold ckb
  rw [if_neg h]
theorem ckt_b {k : Option α} (h : v = 0 ∨ v = 1) : ckt v k = k := by
  unfold ckt
  rw [if_pos h]
theorem ckzi_ne {k : Option α} (h : ¬ v = 0) : ckzi v k = k := by
  unfold ckzi
  rw [if_neg h]
theorem ckzl_ne {k : Option α} (h : ¬ w = 0) : ckzl w k = k := by
  unfold ckzl
  rw [if_neg h]
theorem nar_b (h : v = 0 ∨ v = 1) : vp_nar .boolean v = v := by rcases h with rfl | rfl <;> rfl
theorem upd_at {f : Nat → Int32} {k j : Nat} : upd f k x j = if j = k then x else f j := rfl
theorem updL_at {f : Nat → Int64} {k j : Nat} {z : Int64} : vp_updL f k z j = if j = k then z else f j := rfl
theorem i64_toInt (x : Int32) : x.toInt64.toInt = x.toInt := by simp
theorem i32_lt : x < y ↔ x.toInt < y.toInt := Int32.lt_iff_toInt_lt
theorem i32_le : x ≤ y ↔ x.toInt ≤ y.toInt := Int32.le_iff_toInt_le
theorem i32_eq : x = y ↔ x.toInt = y.toInt := Int32.toInt_inj.symm
theorem i64_lt {a b : Int64} : a < b ↔ a.toInt < b.toInt := Int64.lt_iff_toInt_lt
theorem i64_le {a b : Int64} : a ≤ b ↔ a.toInt ≤ b.toInt := Int64.le_iff_toInt_le
theorem i64_eq {a b : Int64} : a = b ↔ a.toInt = b.toInt := Int64.toInt_inj.symm
theorem cmp_lt {a b : Int64} : lg_cmp a b < 0 ↔ a < b := by
  unfold lg_cmp
  by_cases h1 : b < a
  · rw [if_pos h1]; simp only [i64_lt] at *; constructor
    · intro h; exact absurd h (by decide)
    · intro h; omega
  · rw [if_neg h1]
    by_cases h2 : a = b
    · subst h2; simp
    · rw [if_neg h2]; simp only [i64_lt, i64_eq] at *; constructor
      · intro _; omega
      · intro _; decide
theorem cmp_gt {a b : Int64} : 0 < lg_cmp a b ↔ b < a := by
  unfold lg_cmp
  by_cases h1 : b < a
  · rw [if_pos h1]; simp [h1]
  · rw [if_neg h1]
    by_cases h2 : a = b
    · subst h2; simp
    · rw [if_neg h2]; simp [h1]
theorem cmp_eq {a b : Int64} : lg_cmp a b = 0 ↔ a = b := by
  unfold lg_cmp
  by_cases h1 : b < a
  · rw [if_pos h1]; constructor
    · intro h; exact absurd h (by decide)
    · intro h; subst h; simp at h1
  · rw [if_neg h1]
    by_cases h2 : a = b
    · subst h2; simp
    · rw [if_neg h2]; simp [h2]
theorem cmp_le {a b : Int64} : lg_cmp a b ≤ 0 ↔ a ≤ b := by
  have := @cmp_gt a b
  rw [← Int32.not_lt, this, i64_lt, i64_le]
  omega
theorem cmp_ge {a b : Int64} : 0 ≤ lg_cmp a b ↔ b ≤ a := by
  have := @cmp_lt a b
  rw [← Int32.not_lt, this, i64_lt, i64_le]
  omega
theorem ite10 {C : Prop} [Decidable C] {A B : α} : (if (if C then (1 : Int32) else 0) = 0 then A else B) = if C then B else A := by
  by_cases c : C
  · rw [if_pos c, if_pos c, if_neg (by decide)]
  · rw [if_neg c, if_neg c, if_pos rfl]
end ML
theorem m_within (N : Nat) (ρ : St) (x lo hi : Int64) : f_M_within N ρ x lo hi = some (if lo ≤ x ∧ x ≤ hi then 1 else 0, ρ) := by
  unfold f_M_within
  simp only [cmp_lt, cmp_gt]
  by_cases h1 : x < lo
  · rw [if_pos h1, if_neg (fun h => by simp only [i64_lt, i64_le] at *; omega)]
  · rw [if_neg h1]
    by_cases h2 : hi < x
    · rw [if_pos h2, if_neg (fun h => by simp only [i64_lt, i64_le] at *; omega)]
    · rw [if_neg h2, if_pos (by simp only [i64_lt, i64_le] at *; omega)]
theorem m_within32 (N : Nat) (ρ : St) (x a b : Int32) {lo hi : Int64} (ha : lo.toInt = a.toInt) (hb : hi.toInt = b.toInt) : f_M_within N ρ x.toInt64 lo hi = some (if a ≤ x ∧ x ≤ b then 1 else 0, ρ) := by
  rw [m_within]
  have e : (lo ≤ x.toInt64 ∧ x.toInt64 ≤ hi) = (a ≤ x ∧ x ≤ b) := by
    simp only [i64_le, i32_le, i64_toInt, ha, hb]
  simp only [e]

