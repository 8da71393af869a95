/-! a new expression keeps all alike: likes, bits (own rows) -/
def up (τ : Nat → Tr) (n : Nat) (t : Tr) : Nat → Tr := fun j => if j = n then t else τ j
theorem up_n {τ : Nat → Tr} {n : Nat} {t : Tr} : up τ n t n = t := by simp [up]
theorem up_lt {τ : Nat → Tr} {n j : Nat} {t : Tr} (h : j < n) : up τ n t j = τ j := by unfold up; rw [if_neg (by omega)]
theorem tcases {t : Tr} (w : twf t) : t = .num 0 ∨ (∃ n, n < 2 ^ 64 ∧ t = .num (n + 1)) ∨ (∃ i : Nat, i < 12 ∧ t = .var i) ∨ (∃ k a b, k ≤ 10 ∧ t = two k a b) ∨ (∃ k a, (k = 11 ∨ k = 12) ∧ t = one k a) ∨ (∃ c a, c < 128 ∧ c / 8 % 8 ≤ 5 ∧ t = agg c a) := by
  match t, w with
  | .num 0, _ => exact Or.inl rfl
  | .num (n + 1), w => exact Or.inr (Or.inl ⟨n, w.1, rfl⟩)
  | .var i, w => exact Or.inr (Or.inr (Or.inl ⟨i, w, rfl⟩))
  | .add (.mulL k a) b, w => exact Or.inr (Or.inr (Or.inr (Or.inl ⟨k, a, b, w.1, rfl⟩)))
  | .mulR a k, w => exact Or.inr (Or.inr (Or.inr (Or.inr (Or.inl ⟨k, a, by rcases w.1 with q | q <;> omega, rfl⟩))))
  | .mulL c a, w => exact Or.inr (Or.inr (Or.inr (Or.inr (Or.inr ⟨c, a, w.1, w.2.1, rfl⟩))))
def kd : Tr → Nat
  | .num 0 => 14
  | .num (_ + 1) => 13
  | .var _ => 15
  | .add (.mulL k _) _ => k
  | .mulR _ k => k
  | .mulL _ _ => 16
  | _ => 0
def dt : Tr → Int64
  | .num (n + 1) => vl n
  | .var i => (nI i).toInt64
  | .mulL c _ => (nI (c % 8)).toInt64
  | _ => 0
def tc1 : Tr → Option Tr
  | .add (.mulL _ a) _ => some a
  | .mulR a _ => some a
  | .mulL _ a => some a
  | _ => none
def tc2 : Tr → Option Tr
  | .add (.mulL _ _) b => some b
  | _ => none
def RF (τ : Nat → Tr) (e : Nat) (x : Int32) : Option Tr → Prop
  | none => x = -1
  | some a => ∃ i, i < e ∧ x = nI i ∧ τ i = a
theorem cn_vl {n : Nat} (h : n < 2 ^ 64) : cn (vl n) = n := by
  unfold cn vl
  simp
  omega
theorem nI_j {a b : Nat} (ha : a < 2 ^ 31) (hb : b < 2 ^ 31) (h : nI a = nI b) : a = b := by
  have := congrArg Int32.toInt h
  rw [nI_toInt ha, nI_toInt hb] at this
  omega
theorem nI64_inj {i j : Nat} (hi : i < 2 ^ 31) (hj : j < 2 ^ 31) (h : (nI i).toInt64 = (nI j).toInt64) : i = j := by
  have := congrArg Int64.toInt h
  rw [i64_toInt, i64_toInt, nI_toInt hi, nI_toInt hj] at this
  omega
theorem xe_v {σ : St} {τ : Nat → Tr} {e : Nat} {t : Tr} (w : twf t) (h : XE σ τ e t) : ga σ 3 e = nI (kd t) ∧ gb σ 1 e = dt t ∧ RF τ e (ga σ 4 e) (tc1 t) ∧ RF τ e (ga σ 5 e) (tc2 t) := by
  rcases tcases w with rfl | ⟨n, hn, rfl⟩ | ⟨i, hi, rfl⟩ | ⟨k, a, b, hk, rfl⟩ | ⟨k, a, hk, rfl⟩ | ⟨c, a, hc, hq, rfl⟩
  · obtain ⟨a1, a2, a3, a4⟩ := h; exact ⟨a1, a2, a3, a4⟩
  · obtain ⟨a1, a2, a3, a4⟩ := h; exact ⟨a1, by rw [← vl_cn (gb σ 1 e), a2]; rfl, a3, a4⟩
  · obtain ⟨a1, a2, a3, a4⟩ := h; exact ⟨a1, a2, a3, a4⟩
  · obtain ⟨a1, a2, i, j, b1, b2, b3, b4, b5, b6⟩ := h; exact ⟨a1, a2, ⟨i, b1, b3, b5⟩, ⟨j, b2, b4, b6⟩⟩
  · obtain ⟨a1, a2, i, b1, b2, b3, b4⟩ := h; exact ⟨a1, a2, ⟨i, b1, b2, b4⟩, b3⟩
  · obtain ⟨a1, a2, a3, a4, i, b1, b2, b3, b4, b5⟩ := h; exact ⟨a1, a2, ⟨i, b1, b2, b5⟩, b3⟩
theorem t_ext {t s : Tr} (w : twf t) (v : twf s) (h1 : kd t = kd s) (h2 : dt t = dt s) (h3 : tc1 t = tc1 s) (h4 : tc2 t = tc2 s) (hs : ∀ c a c' a', t = .mulL c a → s = .mulL c' a' → c % 8 = c' % 8 → c = c') : t = s := by
  rcases tcases w with rfl | ⟨n, hn, rfl⟩ | ⟨i, hi, rfl⟩ | ⟨k, a, b, hk, rfl⟩ | ⟨k, a, hk, rfl⟩ | ⟨c, a, hc, hq, rfl⟩ <;>
  rcases tcases v with rfl | ⟨n', hn', rfl⟩ | ⟨i', hi', rfl⟩ | ⟨k', a', b', hk', rfl⟩ | ⟨k', a', hk', rfl⟩ | ⟨c', a', hc', hq', rfl⟩ <;>
  first
  | rfl
  | (exfalso; simp only [kd] at h1; omega)
  | skip
  · have := congrArg cn h2
    rw [show dt (.num (n + 1)) = vl n from rfl, show dt (.num (n' + 1)) = vl n' from rfl, cn_vl hn, cn_vl hn'] at this
    rw [this]
  · skip
    rw [nI64_inj (by omega) (by omega) h2]
  · have e1 : k = k' := h1
    have e2 : a = a' := Option.some.inj h3
    have e3 : b = b' := Option.some.inj h4
    rw [e1, e2, e3]
  · have e1 : k = k' := h1
    have e2 : a = a' := Option.some.inj h3
    rw [e1, e2]
  · have e2 : a = a' := Option.some.inj h3
    rw [e2, hs c a c' a' rfl rfl (nI64_inj (by omega) (by omega) h2)]
theorem rf_like {f : Nat → Int32} {τ : Nat → Tr} {n e d : Nat} {t : Tr} {x y : Int32} {o q : Option Tr} (h60 : n ≤ 60) (he : e ≤ n) (hd : d ≤ n) (hx : RF (up τ n t) e x o) (hy : RF (up τ n t) d y q) (hl : ∀ i, i < n → ∃ l, Lst τ i l ∧ f i = nI l) : atI f (-1) x = atI f (-1) y ↔ o = q := by
  have val : ∀ i, i < n → ∃ l, Lst τ i l ∧ atI f (-1) (nI i) = nI l ∧ l < 60 := by
    intro i hi
    obtain ⟨l, a, b⟩ := hl i hi
    exact ⟨l, a, by rw [atI_yes (by omega), b], by have := a.1; omega⟩
  have ne : ∀ l, l < 60 → ¬ nI l = -1 := by
    intro l hl q
    have := nI_pos (n := l) (by omega)
    rw [q] at this
    exact this (by decide)
  cases o with
  | none =>
    have hx : x = -1 := hx
    subst hx
    cases q with
    | none =>
      have hy : y = -1 := hy
      subst hy
      simp
    | some b =>
      obtain ⟨j, hj, rfl, -⟩ := hy
      obtain ⟨l, -, e2, l60⟩ := val j (by omega)
      rw [e2, atI_no]
      exact ⟨fun h => absurd h.symm (ne l l60), fun h => by cases h⟩
  | some a =>
    obtain ⟨i, hi, rfl, ei⟩ := hx
    rw [up_lt (by omega)] at ei
    obtain ⟨l, s1, e2, l60⟩ := val i (by omega)
    cases q with
    | none =>
      have hy : y = -1 := hy
      subst hy
      rw [e2, atI_no]
      exact ⟨fun h => absurd h (ne l l60), fun h => by cases h⟩
    | some b =>
      obtain ⟨j, hj, rfl, ej⟩ := hy
      rw [up_lt (by omega)] at ej
      obtain ⟨l', s2, e3, l60'⟩ := val j (by omega)
      rw [e2, e3, ← ei, ← ej]
      constructor
      · intro h
        have := nI_j (by omega) (by omega) h
        rw [(lst_iff s1 s2).mpr this]
      · intro h
        rw [(lst_iff s1 s2).mp (Option.some.inj h)]
theorem qk_iff {σ : St} {τ : Nat → Tr} {n i : Nat} {t : Tr} (h60 : n ≤ 60) (hx : ∀ i, i ≤ n → XE σ (up τ n t) i (up τ n t i)) (hw : ∀ i, i ≤ n → twf (up τ n t i)) (hl : ∀ i, i < n → ∃ l, Lst τ i l ∧ ga σ 7 i = nI l)
    (hs : ∀ i c a c' a', i < n → τ i = .mulL c a → t = .mulL c' a' → c % 8 ≠ c' % 8) (hi : i < n) : Qk σ n i ↔ τ i = t := by
  obtain ⟨a1, a2, a3, a4⟩ := xe_v (hw i (by omega)) (hx i (by omega))
  obtain ⟨b1, b2, b3, b4⟩ := xe_v (hw n (Nat.le_refl _)) (hx n (Nat.le_refl _))
  have w1 := hw i (by omega)
  have w2 := hw n (Nat.le_refl _)
  rw [up_lt hi] at a1 a2 a3 a4 w1
  rw [up_n] at b1 b2 b3 b4 w2
  unfold Qk
  rw [rf_like h60 (by omega) (Nat.le_refl _) a3 b3 hl, rf_like h60 (by omega) (Nat.le_refl _) a4 b4 hl, a1, a2, b1, b2]
  have k17 : ∀ {t : Tr}, twf t → kd t < 17 := by
    intro t w
    rcases tcases w with rfl | ⟨n, hn, rfl⟩ | ⟨i, hi, rfl⟩ | ⟨k, a, b, hk, rfl⟩ | ⟨k, a, hk, rfl⟩ | ⟨c, a, hc, hq, rfl⟩ <;> simp only [kd] <;> omega
  constructor
  · intro ⟨q1, q2, q3, q4⟩
    have := k17 w1
    have := k17 w2
    exact t_ext w1 w2 (nI_j (by omega) (by omega) q1) q2 q3 q4 (fun c a c' a' e1 e2 e3 => absurd e3 (hs i c a c' a' hi e1 e2))
  · intro q
    rw [q]
    exact ⟨rfl, rfl, rfl, rfl⟩
theorem lst_up {f : Nat → Tr} {τ : Nat → Tr} {g : Tr → Tr} {n e l : Nat} {t : Tr} (hf : f = fun j => g (τ j)) (he : e < n) (h : Lst f e l) : Lst (fun j => g (up τ n t j)) e l := by
  subst hf
  have := h.1
  refine ⟨h.1, ?_, fun j hj => ?_⟩
  · show g (up τ n t l) = g (up τ n t e)
    rw [up_lt (by omega), up_lt he]
    exact h.2.1
  · show g (up τ n t j) ≠ g (up τ n t e)
    rw [up_lt (by omega), up_lt he]
    exact h.2.2 j hj
/-- what X finds is the least like it -/
theorem x_lst {σ : St} {τ : Nat → Tr} {n : Nat} {t : Tr} {l : Int32} {f : Nat → Int32} (hl : ∀ i, i < n → ∃ l, Lst τ i l ∧ f i = nI l) (hq : ∀ i, i < n → (Qk σ n i ↔ τ i = t))
    (h : (∃ i, i < n ∧ Qk σ n i ∧ l = f i) ∨ ((∀ i, i < n → ¬ Qk σ n i) ∧ l = nI n)) : ∃ l', Lst (up τ n t) n l' ∧ l = nI l' := by
  rcases h with ⟨i, hi, q, e⟩ | ⟨q, e⟩
  · obtain ⟨l', a, b⟩ := hl i hi
    have := a.1
    have ti := (hq i hi).mp q
    refine ⟨l', ⟨by omega, ?_, fun j hj => ?_⟩, e.trans b⟩
    · rw [up_lt (by omega), up_n, a.2.1, ti]
    · rw [up_lt (by omega), up_n, ← ti]
      exact a.2.2 j hj
  · refine ⟨n, ⟨Nat.le_refl _, rfl, fun j hj => ?_⟩, e⟩
    rw [up_lt hj, up_n]
    exact fun z => q j hj ((hq j hj).mpr z)
def kdm : Tr → Nat
  | .num _ => 20
  | .var _ => 21
  | .add (.mulL k _) _ => k
  | .mulR _ k => k
  | .mulL c _ => 30 + c / 8 % 8
  | _ => 0
def kdf : Tr → Nat
  | .num _ => 20
  | .var _ => 21
  | .add (.mulL k _) _ => k
  | .mulR _ k => k
  | .mulL c _ => 30 + c % 8
  | _ => 0
theorem kdf_tfg {t : Tr} (w : twf t) : kdf (tfg t) = kdm t := by
  rcases tcases w with rfl | ⟨n, hn, rfl⟩ | ⟨i, hi, rfl⟩ | ⟨k, a, b, hk, rfl⟩ | ⟨k, a, hk, rfl⟩ | ⟨c, a, hc, hq, rfl⟩ <;> rfl
theorem kdm_me {ρ : St} {τ : Nat → Tr} {e : Nat} {t : Tr} (w : twf t) (h : ME ρ τ e t) : ga ρ 3 e = nI (kdm t) := by
  rcases tcases w with rfl | ⟨n, hn, rfl⟩ | ⟨i, hi, rfl⟩ | ⟨k, a, b, hk, rfl⟩ | ⟨k, a, hk, rfl⟩ | ⟨c, a, hc, hq, rfl⟩ <;> exact h.1
theorem kdm_36 {t : Tr} (w : twf t) : kdm t < 36 := by
  rcases tcases w with rfl | ⟨n, hn, rfl⟩ | ⟨i, hi, rfl⟩ | ⟨k, a, b, hk, rfl⟩ | ⟨k, a, hk, rfl⟩ | ⟨c, a, hc, hq, rfl⟩ <;> simp only [kdm] <;> omega

