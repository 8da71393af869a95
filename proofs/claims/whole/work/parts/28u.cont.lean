/-! rows of the answer by what they hold: moving, comparing (own rows) -/
def enc (a : Int32) (v : Int64) (o : Option Int64) : Prop := (o = none ∧ a = 1) ∨ (o = some v ∧ a = 0)
/-- M's row p holds what row x held -/
def McR (V : Nat → Nat → Option Int64) (ni : Nat) (ρ : St) (p x : Nat) : Prop := ∀ i, i < ni → enc (ga ρ 18 (6 * p + i)) (gb ρ 2 (6 * p + i)) (V x i)
def MC (ρ ρ' : St) : Prop := (∀ r, gi ρ' r = gi ρ r) ∧ (∀ r, r ≠ 18 → ga ρ' r = ga ρ r) ∧ (∀ r, r ≠ 2 → gb ρ' r = gb ρ r)
theorem MC.rfl {ρ : St} : MC ρ ρ := ⟨fun _ => Eq.refl _, fun _ _ => Eq.refl _, fun _ _ => Eq.refl _⟩
theorem MC.trans {a b c : St} (h : MC a b) (k : MC b c) : MC a c := ⟨fun r => (k.1 r).trans (h.1 r), fun r x => (k.2.1 r x).trans (h.2.1 r x), fun r x => (k.2.2 r x).trans (h.2.2 r x)⟩
theorem MC.sm {ρ ρ' : St} (h : MC ρ ρ') : SM ρ ρ' := ⟨fun r _ => h.1 r, fun r q => h.2.1 r (fun z => absurd q (by rw [z]; decide)), fun r q => h.2.2 r (fun z => absurd q (by rw [z]; decide))⟩
theorem mc_cell {ρ : St} {i : Int32} {x : Int64} {y : Int32} : MC ρ (wz (wl ρ 2 i x) 18 i y) := ⟨fun _ => rfl, fun r h => by rw [ga_wz, if_neg h]; rfl, fun r h => by rw [gb_wz, gb_wl, if_neg h]⟩
theorem enc_01 {a : Int32} {v : Int64} {o : Option Int64} (h : enc a v o) : a = 0 ∨ a = 1 := by rcases h with h | h; exact Or.inr h.2; exact Or.inl h.2
theorem m_move (N : Nat) (hN : 100 < N) {V : Nat → Nat → Option Int64} {ni : Nat} {ρ : St} {p q x : Nat} (hi : gi ρ 7 = nI ni) (h6 : ni ≤ 6) (hp : p ≤ 200) (hq : q ≤ 200) (hc : McR V ni ρ q x) :
    ∃ ρ', f_M_moveRow N ρ (nI p) (nI q) = some ((), ρ') ∧ MC ρ ρ' ∧ McR V ni ρ' p x ∧ ∀ p' y, p' ≠ p → McR V ni ρ p' y → McR V ni ρ' p' y := by
  have key : ∀ (d i fu : Nat) (ρ1 : St), i + d = ni → d < fu → MC ρ ρ1 → (∀ j, j < i → ga ρ1 18 (6 * p + j) = ga ρ 18 (6 * q + j) ∧ gb ρ1 2 (6 * p + j) = gb ρ 2 (6 * q + j)) → (∀ z, (∀ j, j < i → z ≠ 6 * p + j) → ga ρ1 18 z = ga ρ 18 z ∧ gb ρ1 2 z = gb ρ 2 z) →
      ∃ ρ', f_M_moveRow_2 N fu ρ1 (nI p) (nI q) (nI i) = some ((), ρ') ∧ MC ρ ρ' ∧ (∀ j, j < ni → ga ρ' 18 (6 * p + j) = ga ρ 18 (6 * q + j) ∧ gb ρ' 2 (6 * p + j) = gb ρ 2 (6 * q + j)) ∧ (∀ z, (∀ j, j < ni → z ≠ 6 * p + j) → ga ρ' 18 z = ga ρ 18 z ∧ gb ρ' 2 z = gb ρ 2 z) := by
    intro d
    induction d with
    | zero =>
      intro i fu ρ1 hd hfu mc h1 h2
      obtain ⟨fu, rfl⟩ : ∃ q, fu = q + 1 := ⟨fu - 1, by omega⟩
      have e : i = ni := by omega
      subst e
      refine ⟨ρ1, ?_, mc, h1, h2⟩
      show f_M_moveRow_2_b N (f_M_moveRow_2 N fu) ρ1 (nI p) (nI q) (nI i) = _
      unfold f_M_moveRow_2_b
      rw [mc.1, hi, if_pos (nI_le (Nat.le_refl _) (by omega))]
    | succ d ih =>
      intro i fu ρ1 hd hfu mc h1 h2
      obtain ⟨fu, rfl⟩ : ∃ q, fu = q + 1 := ⟨fu - 1, by omega⟩
      obtain ⟨s1, s2⟩ := h2 (6 * q + i) (fun j hj z => by omega)
      have e01 := enc_01 (hc i (by omega))
      have lt1 : 6 * p + i < 2 ^ 31 := by omega
      obtain ⟨ρ2, hρ2⟩ : ∃ s, s = wz (wl ρ1 2 (nI (6 * p + i)) (gb ρ 2 (6 * q + i))) 18 (nI (6 * p + i)) (ga ρ 18 (6 * q + i)) := ⟨_, rfl⟩
      have st : f_M_moveRow_2 N (fu + 1) ρ1 (nI p) (nI q) (nI i) = f_M_moveRow_2 N fu ρ2 (nI p) (nI q) (nI (i + 1)) := by
        show f_M_moveRow_2_b N (f_M_moveRow_2 N fu) ρ1 (nI p) (nI q) (nI i) = _
        unfold f_M_moveRow_2_b
        rw [mc.1, hi, if_neg (nI_ge (by omega) (by omega)), nI_6', nI_6', ckb_nI (show 6 * q + i < 1206 by omega) (by decide), ckb_nI (show 6 * p + i < 1206 by omega) (by decide), nm_eq, ckb_nI (show 6 * q + i < 1206 by omega) (by decide), ckb_nI (show 6 * p + i < 1206 by omega) (by decide), nm_eq, nI_clamp (show 6 * q + i < 2 ^ 31 by omega), s2, show ga (wl ρ1 2 (nI (6 * p + i)) (gb ρ 2 (6 * q + i))) 18 (6 * q + i) = ga ρ 18 (6 * q + i) from s1, nI_1, hρ2]
      rw [st]
      have n2 : ∀ z, ga ρ2 18 z = if z = 6 * p + i then ga ρ 18 (6 * q + i) else ga ρ1 18 z := by
        intro z
        rw [hρ2, ga_wz, if_pos rfl, nI_clamp lt1, upd_at, nar_b e01, ga_wl]
      have n3 : ∀ z, gb ρ2 2 z = if z = 6 * p + i then gb ρ 2 (6 * q + i) else gb ρ1 2 z := by
        intro z
        rw [hρ2, gb_wz, gb_wl, if_pos rfl, nI_clamp lt1, updL_at]
      refine ih (i + 1) fu ρ2 (by omega) (by omega) (mc.trans (by rw [hρ2]; exact mc_cell)) (fun j hj => ?_) (fun z hz => ?_)
      · rw [n2, n3]
        by_cases c : j = i
        · rw [if_pos (by omega), if_pos (by omega), c]; exact ⟨rfl, rfl⟩
        · rw [if_neg (by omega), if_neg (by omega)]; exact h1 j (by omega)
      · rw [n2, n3, if_neg (hz i (by omega)), if_neg (hz i (by omega))]
        exact h2 z (fun j hj => hz j (by omega))
  obtain ⟨ρ', z1, z2, z3, z4⟩ := key ni 0 N ρ (by omega) (by omega) MC.rfl (fun j hj => by omega) (fun z _ => ⟨rfl, rfl⟩)
  refine ⟨ρ', z1, z2, fun i hi' => ?_, fun p' y hne hy i hi' => ?_⟩
  · rw [(z3 i hi').1, (z3 i hi').2]; exact hc i hi'
  · obtain ⟨a, b⟩ := z4 (6 * p' + i) (fun j hj e => by omega)
    rw [a, b]
    exact hy i hi'
theorem enc_inj {a b : Int32} {u v : Int64} {o q : Option Int64} (h : enc a u o) (k : enc b v q) : o = q ↔ (a = b ∧ (a = 0 → u = v)) := by
  rcases h with ⟨h1, h2⟩ | ⟨h1, h2⟩ <;> rcases k with ⟨k1, k2⟩ | ⟨k1, k2⟩ <;> rw [h1, k1, h2, k2] <;> simp
theorem m_same (N : Nat) (hN : 100 < N) {V : Nat → Nat → Option Int64} {ni : Nat} {ρ : St} {p q x y : Nat} (hi : gi ρ 7 = nI ni) (h6 : ni ≤ 6) (hp : p ≤ 200) (hq : q ≤ 200) (hc : McR V ni ρ p x) (hd : McR V ni ρ q y) : ∃ r, f_M_isSameRow N ρ (nI p) (nI q) = some (r, ρ) ∧ (r = 0 ∨ r = 1) ∧ (r = 1 ↔ ∀ i, i < ni → V x i = V y i) := by
  have key : ∀ (d i fu : Nat) (s : Int32), i + d = ni → d < fu → (s = 0 ∨ s = 1) → ∃ r, f_M_isSameRow_5 N fu ρ (nI p) (nI q) s (nI i) = some (r, ρ) ∧ (r = 0 ∨ r = 1) ∧ (r = 1 ↔ s = 1 ∧ ∀ j, i ≤ j → j < ni → V x j = V y j) := by
    intro d
    induction d with
    | zero =>
      intro i fu s hd hfu hs
      obtain ⟨fu, rfl⟩ : ∃ q, fu = q + 1 := ⟨fu - 1, by omega⟩
      have e0 : f_M_isSameRow_5 N (fu + 1) ρ (nI p) (nI q) s (nI i) = f_M_isSameRow_5_b N (f_M_isSameRow_5 N fu) ρ (nI p) (nI q) s (nI i) := rfl
      rw [e0]
      unfold f_M_isSameRow_5_b
      rw [hi, if_pos (nI_le (by omega) (by omega)), ckt_b hs]
      exact ⟨s, rfl, hs, fun z => ⟨z, fun j h1 h2 => by omega⟩, fun z => z.1⟩
    | succ d ih =>
      intro i fu s hd' hfu hs
      obtain ⟨fu, rfl⟩ : ∃ q, fu = q + 1 := ⟨fu - 1, by omega⟩
      have e0 : f_M_isSameRow_5 N (fu + 1) ρ (nI p) (nI q) s (nI i) = f_M_isSameRow_5_b N (f_M_isSameRow_5 N fu) ρ (nI p) (nI q) s (nI i) := rfl
      rw [e0]
      unfold f_M_isSameRow_5_b
      rw [hi, if_neg (nI_ge (by omega) (by omega)), nI_6', nI_6', nI_1]
      simp only [ckb_nI (show 6 * p + i < 1206 by omega) (show 1206 < 2 ^ 31 by decide), ckb_nI (show 6 * q + i < 1206 by omega) (show 1206 < 2 ^ 31 by decide), nI_clamp (show 6 * p + i < 2 ^ 31 by omega), nI_clamp (show 6 * q + i < 2 ^ 31 by omega), cmp_eq]
      have ei := enc_inj (hc i (by omega)) (hd i (by omega))
      have go : ∀ v : Int32, (v = 0 ∨ v = 1) → (v = 1 ↔ (s = 1 ∧ V x i = V y i)) → ∃ r, f_M_isSameRow_5 N fu ρ (nI p) (nI q) v (nI (i + 1)) = some (r, ρ) ∧ (r = 0 ∨ r = 1) ∧ (r = 1 ↔ s = 1 ∧ ∀ j, i ≤ j → j < ni → V x j = V y j) := by
        intro v hv hb
        obtain ⟨r, z1, z2, z3⟩ := ih (i + 1) fu v (by omega) (by omega) hv
        refine ⟨r, z1, z2, z3.trans ?_⟩
        rw [hb]
        constructor
        · rintro ⟨⟨y1, y2⟩, y3⟩
          refine ⟨y1, fun j h1 h2 => ?_⟩
          by_cases c : j = i
          · subst c; exact y2
          · exact y3 j (by omega) h2
        · rintro ⟨y1, y2⟩
          exact ⟨⟨y1, y2 i (Nat.le_refl _) (by omega)⟩, fun j h1 h2 => y2 j (by omega) h2⟩
      by_cases c : s = 0
      · rw [if_pos c]
        exact go 0 (Or.inl rfl) ⟨fun z => absurd z (by decide), fun z => absurd z.1 (by rw [c]; decide)⟩
      · have s1 : s = 1 := by rcases hs with z | z; exact absurd z c; exact z
        rw [if_neg c]
        by_cases c2 : ga ρ 18 (6 * p + i) = ga ρ 18 (6 * q + i)
        · rw [if_pos c2]
          by_cases c3 : ga ρ 18 (6 * p + i) = 0
          · rw [if_pos c3]
            by_cases c4 : gb ρ 2 (6 * p + i) = gb ρ 2 (6 * q + i)
            · rw [if_pos c4]
              exact go 1 (Or.inr rfl) ⟨fun _ => ⟨s1, ei.mpr ⟨c2, fun _ => c4⟩⟩, fun _ => rfl⟩
            · rw [if_neg c4]
              exact go 0 (Or.inl rfl) ⟨fun z => absurd z (by decide), fun z => absurd ((ei.mp z.2).2 c3) c4⟩
          · rw [if_neg c3]
            exact go 1 (Or.inr rfl) ⟨fun _ => ⟨s1, ei.mpr ⟨c2, fun z => absurd z c3⟩⟩, fun _ => rfl⟩
        · rw [if_neg c2]
          exact go 0 (Or.inl rfl) ⟨fun z => absurd z (by decide), fun z => absurd (ei.mp z.2).1 c2⟩
  obtain ⟨r, z1, z2, z3⟩ := key ni 0 N 1 (by omega) (by omega) (Or.inr rfl)
  exact ⟨r, z1, z2, z3.trans ⟨fun z i hi => z.2 i (by omega) hi, fun z => ⟨rfl, fun j _ h2 => z j h2⟩⟩⟩
/-- less, even, more; none is least -/
def c3 : Option Int64 → Option Int64 → Int
  | none, none => 0
  | none, some _ => -1
  | some _, none => 1
  | some x, some y => if x < y then -1 else if y < x then 1 else 0
theorem c3_anti (a b : Option Int64) : c3 b a = -c3 a b := by
  cases a <;> cases b <;> simp only [c3]
  · rfl
  · rfl
  · rename_i x y
    by_cases h1 : x < y
    · rw [if_neg (show ¬ y < x by rw [i64_lt] at *; omega), if_pos h1, if_pos h1]; rfl
    · by_cases h2 : y < x
      · rw [if_pos h2, if_neg h1, if_pos h2]
      · rw [if_neg h2, if_neg h1, if_neg h1, if_neg h2]; rfl
/-- row x comes before row y, by q orders from the k-th on -/
def bfr (V : Nat → Nat → Option Int64) (oI : Nat → Nat) (oD : Nat → Prop) (x y : Nat) : Nat → Nat → Prop
  | 0, _ => False
  | q + 1, k => (c3 (V x (oI k)) (V y (oI k)) = 0 ∧ bfr V oI oD x y q (k + 1)) ∨ (c3 (V x (oI k)) (V y (oI k)) < 0 ∧ ¬ oD k) ∨ (0 < c3 (V x (oI k)) (V y (oI k)) ∧ oD k)
theorem m_before (N : Nat) (hN : 100 < N) {V : Nat → Nat → Option Int64} {ni no : Nat} {oI : Nat → Nat} {oD : Nat → Prop} {ρ : St} {p q x y : Nat} (h6 : ni ≤ 6) (h4 : no ≤ 4) (ho : gi ρ 8 = nI no) (hI : ∀ k, k < no → oI k < ni ∧ ga ρ 16 k = nI (oI k) ∧ (ga ρ 17 k = 0 ↔ ¬ oD k)) (hp : p ≤ 200) (hq : q ≤ 200) (hc : McR V ni ρ p x) (hd : McR V ni ρ q y) :
    ∃ r, f_M_isBefore N ρ (nI p) (nI q) = some (r, ρ) ∧ (r = 0 ∨ r = 1) ∧ (r = 1 ↔ bfr V oI oD x y no 0) := by
  have key : ∀ (d k fu : Nat), k + d = no → d < fu → ∃ r, f_M_isBefore_2 N fu ρ (nI p) (nI q) (nI k) = some (r, ρ) ∧ (r = 0 ∨ r = 1) ∧ (r = 1 ↔ bfr V oI oD x y d k) := by
    intro d
    induction d with
    | zero =>
      intro k fu hk hfu
      obtain ⟨fu, rfl⟩ : ∃ q, fu = q + 1 := ⟨fu - 1, by omega⟩
      have e0 : f_M_isBefore_2 N (fu + 1) ρ (nI p) (nI q) (nI k) = f_M_isBefore_2_b N (f_M_isBefore_2 N fu) ρ (nI p) (nI q) (nI k) := rfl
      rw [e0]
      unfold f_M_isBefore_2_b
      rw [ho, if_pos (nI_le (by omega) (by omega))]
      exact ⟨0, rfl, Or.inl rfl, fun z => absurd z (by decide), fun z => z.elim⟩
    | succ d ih =>
      intro k fu hk hfu
      obtain ⟨fu, rfl⟩ : ∃ q, fu = q + 1 := ⟨fu - 1, by omega⟩
      have e0 : f_M_isBefore_2 N (fu + 1) ρ (nI p) (nI q) (nI k) = f_M_isBefore_2_b N (f_M_isBefore_2 N fu) ρ (nI p) (nI q) (nI k) := rfl
      obtain ⟨i1, i2, i3⟩ := hI k (by omega)
      have ep := hc (oI k) i1
      have eq := hd (oI k) i1
      rw [e0]
      unfold f_M_isBefore_2_b f_M_isBefore_96 f_M_isBefore_97 f_M_isBefore_159 f_M_isBefore_160 f_M_isBefore_172
      rw [ho, if_neg (nI_ge (by omega) (by omega)), ckb_nI (show k < 4 by omega) (by decide), ckb_nI (show k < 4 by omega) (by decide), nI_clamp (show k < 2 ^ 31 by omega), i2, nI_6', nI_6', nI_1]
      simp only [ckb_nI (show 6 * p + oI k < 1206 by omega) (show 1206 < 2 ^ 31 by decide), ckb_nI (show 6 * q + oI k < 1206 by omega) (show 1206 < 2 ^ 31 by decide), nI_clamp (show 6 * p + oI k < 2 ^ 31 by omega), nI_clamp (show 6 * q + oI k < 2 ^ 31 by omega), cmp_ge, ckb_nI (show k < 4 by omega) (show 4 < 2 ^ 31 by decide), nI_clamp (show k < 2 ^ 31 by omega)]
      have even : c3 (V x (oI k)) (V y (oI k)) = 0 → ∃ r, f_M_isBefore_2 N fu ρ (nI p) (nI q) (nI (k + 1)) = some (r, ρ) ∧ (r = 0 ∨ r = 1) ∧ (r = 1 ↔ bfr V oI oD x y (d + 1) k) := by
        intro z
        obtain ⟨r, z1, z2, z3⟩ := ih (k + 1) fu (by omega) (by omega)
        refine ⟨r, z1, z2, z3.trans ?_⟩
        show _ ↔ ((c3 (V x (oI k)) (V y (oI k)) = 0 ∧ bfr V oI oD x y d (k + 1)) ∨ (c3 (V x (oI k)) (V y (oI k)) < 0 ∧ ¬ oD k) ∨ (0 < c3 (V x (oI k)) (V y (oI k)) ∧ oD k))
        rw [z]
        simp
      have ends : ∀ (le mo : Int32), (le = 0 ∧ mo = 1 ∧ 0 < c3 (V x (oI k)) (V y (oI k))) ∨ (le = 1 ∧ mo = 0 ∧ c3 (V x (oI k)) (V y (oI k)) < 0) → ∃ r, (if ga ρ 17 k = 0 then (ckt le <| some (le, ρ)) else (ckt mo <| some (mo, ρ))) = some (r, ρ) ∧ (r = 0 ∨ r = 1) ∧ (r = 1 ↔ bfr V oI oD x y (d + 1) k) := by
        intro le mo hlm
        have eb : bfr V oI oD x y (d + 1) k ↔ ((c3 (V x (oI k)) (V y (oI k)) = 0 ∧ bfr V oI oD x y d (k + 1)) ∨ (c3 (V x (oI k)) (V y (oI k)) < 0 ∧ ¬ oD k) ∨ (0 < c3 (V x (oI k)) (V y (oI k)) ∧ oD k)) := Iff.rfl
        rw [eb]
        rcases hlm with ⟨rfl, rfl, z⟩ | ⟨rfl, rfl, z⟩
        · rw [ckt_b (Or.inl rfl), ckt_b (Or.inr rfl)]
          by_cases c : ga ρ 17 k = 0
          · rw [if_pos c]
            refine ⟨0, rfl, Or.inl rfl, fun u => absurd u (by decide), fun u => ?_⟩
            rcases u with ⟨u, -⟩ | ⟨u, -⟩ | ⟨-, u⟩
            · omega
            · omega
            · exact absurd u (i3.mp c)
          · rw [if_neg c]
            exact ⟨1, rfl, Or.inr rfl, fun _ => Or.inr (Or.inr ⟨z, Classical.not_not.mp (fun u => c (i3.mpr u))⟩), fun _ => rfl⟩
        · rw [ckt_b (Or.inl rfl), ckt_b (Or.inr rfl)]
          by_cases c : ga ρ 17 k = 0
          · rw [if_pos c]
            exact ⟨1, rfl, Or.inr rfl, fun _ => Or.inr (Or.inl ⟨z, i3.mp c⟩), fun _ => rfl⟩
          · rw [if_neg c]
            refine ⟨0, rfl, Or.inl rfl, fun u => absurd u (by decide), fun u => ?_⟩
            rcases u with ⟨u, -⟩ | ⟨-, u⟩ | ⟨u, -⟩
            · omega
            · exact absurd (i3.mpr u) c
            · omega
      have n10 : ¬ (1 : Int32) = 0 := by decide
      rcases ep with ⟨p1, p2⟩ | ⟨p1, p2⟩ <;> rcases eq with ⟨q1, q2⟩ | ⟨q1, q2⟩ <;> rw [p2, q2] <;> simp only [if_true, if_false, n10]
      · exact even (by rw [p1, q1]; rfl)
      · exact ends 1 0 (Or.inr ⟨rfl, rfl, by rw [p1, q1]; exact (by decide : (-1 : Int) < 0)⟩)
      · exact ends 0 1 (Or.inl ⟨rfl, rfl, by rw [p1, q1]; exact (by decide : (0 : Int) < 1)⟩)
      · have ce : c3 (V x (oI k)) (V y (oI k)) = if gb ρ 2 (6 * p + oI k) < gb ρ 2 (6 * q + oI k) then -1 else if gb ρ 2 (6 * q + oI k) < gb ρ 2 (6 * p + oI k) then 1 else 0 := by rw [p1, q1]; rfl
        by_cases h1 : gb ρ 2 (6 * p + oI k) < gb ρ 2 (6 * q + oI k)
        · rw [if_neg (show ¬ gb ρ 2 (6 * q + oI k) ≤ gb ρ 2 (6 * p + oI k) by rw [i64_le]; rw [i64_lt] at h1; omega), if_pos (show gb ρ 2 (6 * p + oI k) ≤ gb ρ 2 (6 * q + oI k) by rw [i64_le]; rw [i64_lt] at h1; omega)]
          exact ends 1 0 (Or.inr ⟨rfl, rfl, by rw [ce, if_pos h1]; decide⟩)
        · rw [if_pos (show gb ρ 2 (6 * q + oI k) ≤ gb ρ 2 (6 * p + oI k) by rw [i64_le]; rw [i64_lt] at h1; omega)]
          by_cases h2 : gb ρ 2 (6 * q + oI k) < gb ρ 2 (6 * p + oI k)
          · rw [if_neg (show ¬ gb ρ 2 (6 * p + oI k) ≤ gb ρ 2 (6 * q + oI k) by rw [i64_le]; rw [i64_lt] at h2; omega)]
            exact ends 0 1 (Or.inl ⟨rfl, rfl, by rw [ce, if_neg h1, if_pos h2]; decide⟩)
          · rw [if_pos (show gb ρ 2 (6 * p + oI k) ≤ gb ρ 2 (6 * q + oI k) by rw [i64_le]; rw [i64_lt] at h2; omega)]
            exact even (by rw [ce, if_neg h1, if_neg h2])
  exact key no 0 N (by omega) (by omega)

