/-! expressions as trees: num 0 NULL, num (n + 1) a constant, var i a column's bit, add (mulL k a) b an operator of two, mulR a k one of one, mulL c a an aggregate (c % 8 its slot, c / 8 % 8 its kind, c / 64 whether distinct) (own rows) -/
abbrev Tr : Type := Nat.Internal.Linear.Expr
abbrev two (k : Nat) (a b : Tr) : Tr := .add (.mulL k a) b
abbrev one (k : Nat) (a : Tr) : Tr := .mulR a k
abbrev agg (c : Nat) (a : Tr) : Tr := .mulL c a
def tsz : Tr → Nat
  | .num _ => 1
  | .var _ => 1
  | .add (.mulL _ a) b => 1 + tsz a + tsz b
  | .mulL _ a => 1 + tsz a
  | .mulR a _ => 1 + tsz a
  | _ => 1
def tcb : Tr → Nat
  | .var i => 2 ^ i
  | .add (.mulL _ a) b => tcb a ||| tcb b
  | .mulL _ a => tcb a
  | .mulR a _ => tcb a
  | _ => 0
def tab : Tr → Nat
  | .add (.mulL _ a) b => tab a ||| tab b
  | .mulL c _ => 2 ^ (c % 8)
  | .mulR a _ => tab a
  | _ => 0
/-- M forgets the slot -/
def tfg : Tr → Tr
  | .num n => .num n
  | .var i => .var i
  | .add (.mulL k a) b => .add (.mulL k (tfg a)) (tfg b)
  | .mulL c a => .mulL (c / 8) (tfg a)
  | .mulR a k => .mulR (tfg a) k
  | t => t
def tru : Tr → Prop
  | .add (.mulL k _) _ => 5 ≤ k
  | .mulR _ _ => True
  | _ => False
def cn (v : Int64) : Nat := v.toUInt64.toNat
def vl (n : Nat) : Int64 := (UInt64.ofNat n).toInt64
theorem vl_cn (v : Int64) : vl (cn v) = v := by simp [vl, cn]
theorem cn_inj {v w : Int64} (h : cn v = cn w) : v = w := by rw [← vl_cn v, h, vl_cn]
theorem cn_lt (v : Int64) : cn v < 2 ^ 64 := v.toUInt64.toNat_lt
/-- sorts are right -/
def twf : Tr → Prop
  | .num 0 => True
  | .num (n + 1) => n < 2 ^ 64 ∧ okz (vl n)
  | .var i => i < 12
  | .add (.mulL k a) b => k ≤ 10 ∧ (tru a ↔ 9 ≤ k) ∧ (tru b ↔ 9 ≤ k) ∧ twf a ∧ twf b
  | .mulL c a => c < 128 ∧ c / 8 % 8 ≤ 5 ∧ ¬ tru a ∧ tab a = 0 ∧ twf a
  | .mulR a k => (k = 11 ∧ tru a ∨ k = 12 ∧ ¬ tru a) ∧ twf a
  | _ => False
/-- X holds tree t at e -/
def XE (σ : St) (τ : Nat → Tr) (e : Nat) : Tr → Prop
  | .num 0 => ga σ 3 e = 14 ∧ gb σ 1 e = 0 ∧ ga σ 4 e = -1 ∧ ga σ 5 e = -1
  | .num (n + 1) => ga σ 3 e = 13 ∧ cn (gb σ 1 e) = n ∧ ga σ 4 e = -1 ∧ ga σ 5 e = -1
  | .var i => ga σ 3 e = 15 ∧ gb σ 1 e = (nI i).toInt64 ∧ ga σ 4 e = -1 ∧ ga σ 5 e = -1
  | .add (.mulL k a) b => ga σ 3 e = nI k ∧ gb σ 1 e = 0 ∧ ∃ i j, i < e ∧ j < e ∧ ga σ 4 e = nI i ∧ ga σ 5 e = nI j ∧ τ i = a ∧ τ j = b
  | .mulR a k => ga σ 3 e = nI k ∧ gb σ 1 e = 0 ∧ ∃ i, i < e ∧ ga σ 4 e = nI i ∧ ga σ 5 e = -1 ∧ τ i = a
  | .mulL c a => ga σ 3 e = 16 ∧ gb σ 1 e = (nI (c % 8)).toInt64 ∧ ga σ 10 (c % 8) = nI (c / 8 % 8) ∧ ga σ 12 (c % 8) = (if c / 64 = 1 ∧ c / 8 % 8 ≠ 0 then 1 else 0) ∧ ∃ i, i < e ∧ ga σ 4 e = nI i ∧ ga σ 5 e = -1 ∧ ga σ 11 (c % 8) = nI i ∧ τ i = a
  | _ => False
def ME (ρ : St) (τ : Nat → Tr) (e : Nat) : Tr → Prop
  | .num 0 => ga ρ 3 e = 20 ∧ ga ρ 6 e = 1
  | .num (n + 1) => ga ρ 3 e = 20 ∧ ga ρ 6 e = 0 ∧ cn (gb ρ 1 e) = n
  | .var i => ga ρ 3 e = 21 ∧ ga ρ 6 e = 0 ∧ ga ρ 4 e = nI (i / 4) ∧ ga ρ 5 e = nI (i % 4)
  | .add (.mulL k a) b => ga ρ 3 e = nI k ∧ ga ρ 6 e = 0 ∧ ∃ i j, i < e ∧ j < e ∧ ga ρ 4 e = nI i ∧ ga ρ 5 e = nI j ∧ τ i = a ∧ τ j = b
  | .mulR a k => ga ρ 3 e = nI k ∧ ga ρ 6 e = 0 ∧ ∃ i, i < e ∧ ga ρ 4 e = nI i ∧ τ i = a
  | .mulL c a => ga ρ 3 e = nI (30 + c / 8 % 8) ∧ ga ρ 6 e = nI (c / 64) ∧ ga ρ 10 (c % 8) = nI e ∧ ∃ i, i < e ∧ ga ρ 4 e = nI i ∧ τ i = a
  | _ => False
/-- l is the least number of what is like e -/
def Lst (f : Nat → Tr) (e l : Nat) : Prop := l ≤ e ∧ f l = f e ∧ ∀ j, j < l → f j ≠ f e
/-- all that is known of expression e -/
def IvX (σ ρ : St) (τ : Nat → Tr) (m e : Nat) : Prop :=
  XE σ τ e (τ e) ∧ ME ρ τ e (τ e) ∧ twf (τ e) ∧ tsz (τ e) ≤ 60 ∧ (∀ c a, τ e = .mulL c a → c % 8 < m) ∧
  ga σ 6 e = nI (tsz (τ e)) ∧ ga ρ 7 e = nI (tsz (τ e)) ∧ ga σ 8 e = nI (tcb (τ e)) ∧ ga σ 9 e = nI (tab (τ e)) ∧ ga ρ 8 e = (if tab (τ e) = 0 then 0 else 1) ∧
  (∃ l, Lst τ e l ∧ ga σ 7 e = nI l) ∧ (∃ l, Lst (fun j => tfg (τ j)) e l ∧ ga ρ 9 e = nI l)
def IvE (σ ρ : St) (n m : Nat) (τ : Nat → Tr) : Prop := n ≤ 60 ∧ m ≤ 8 ∧ gi σ 1 = nI n ∧ gi ρ 1 = nI n ∧ gi σ 2 = nI m ∧ gi ρ 2 = nI m ∧
  (∀ e, e < n → IvX σ ρ τ m e) ∧ (∀ s, s < m → ∃ e, e < n ∧ ga ρ 10 s = nI e ∧ ∃ c a, c % 8 = s ∧ τ e = .mulL c a)
theorem lst_iff {f : Nat → Tr} {e d l k : Nat} (h : Lst f e l) (g : Lst f d k) : f e = f d ↔ l = k := by
  constructor
  · intro q
    rcases Nat.lt_trichotomy l k with c | c | c
    · exact absurd (h.2.1.trans q) (g.2.2 l c)
    · exact c
    · exact absurd (g.2.1.trans q.symm) (h.2.2 k c)
  · intro q
    subst q
    exact h.2.1.symm.trans g.2.1
theorem tru_X {σ : St} {τ : Nat → Tr} {e : Nat} : ∀ {t : Tr}, twf t → XE σ τ e t → (TX σ e ↔ tru t)
  | .num 0, _, h => by have := h.1; unfold TX; rw [this]; simp [tru]
  | .num (n + 1), _, h => by have := h.1; unfold TX; rw [this]; simp [tru]
  | .var i, _, h => by have := h.1; unfold TX; rw [this]; simp [tru]
  | .mulL c a, _, h => by have := h.1; unfold TX; rw [this]; simp [tru]
  | .mulR a k, w, h => by
    have := h.1
    unfold TX
    rw [this]
    rcases w.1 with q | q <;> rw [q.1] <;> simp only [tru, iff_true] <;> decide
  | .add (.mulL k a) b, w, h => by
    have := h.1
    have k10 := w.1
    unfold TX
    rw [this, show (5 : Int32) = nI 5 from rfl, show (12 : Int32) = nI 12 from rfl, nI_leI (by decide) (by omega), nI_leI (by omega) (by decide)]
    simp only [tru]
    omega
theorem tru_M {ρ : St} {τ : Nat → Tr} {e : Nat} : ∀ {t : Tr}, twf t → ME ρ τ e t → (TM ρ e ↔ tru t)
  | .num 0, _, h => by have := h.1; unfold TM; rw [this]; simp [tru]
  | .num (n + 1), _, h => by have := h.1; unfold TM; rw [this]; simp [tru]
  | .var i, _, h => by have := h.1; unfold TM; rw [this]; simp [tru]
  | .mulL c a, w, h => by
    have := h.1
    have c5 := w.2.1
    unfold TM
    rw [this, show (5 : Int32) = nI 5 from rfl, show (12 : Int32) = nI 12 from rfl, nI_leI (by decide) (by omega), nI_leI (by omega) (by decide)]
    simp only [tru, iff_false]
    omega
  | .mulR a k, w, h => by
    have := h.1
    unfold TM
    rw [this]
    rcases w.1 with q | q <;> rw [q.1] <;> simp only [tru, iff_true] <;> decide
  | .add (.mulL k a) b, w, h => by
    have := h.1
    have k10 := w.1
    unfold TM
    rw [this, show (5 : Int32) = nI 5 from rfl, show (12 : Int32) = nI 12 from rfl, nI_leI (by decide) (by omega), nI_leI (by omega) (by decide)]
    simp only [tru]
    omega
theorem ivE_ex {σ ρ : St} {n m : Nat} {τ : Nat → Tr} (h : IvE σ ρ n m τ) : Ex σ ρ n := by
  obtain ⟨h60, -, e1, e2, -, -, hx, -⟩ := h
  refine ⟨h60, e1, e2, fun j hj => ?_⟩
  obtain ⟨x, y, w, -⟩ := hx j hj
  rw [tru_X w x, tru_M w y]
theorem XE_mono {σ σ' : St} {τ τ' : Nat → Tr} {e m : Nat} (h1 : ga σ' 3 e = ga σ 3 e) (h2 : gb σ' 1 e = gb σ 1 e) (h3 : ga σ' 4 e = ga σ 4 e) (h4 : ga σ' 5 e = ga σ 5 e)
    (h5 : ∀ s, s < m → ga σ' 10 s = ga σ 10 s) (h6 : ∀ s, s < m → ga σ' 11 s = ga σ 11 s) (h7 : ∀ s, s < m → ga σ' 12 s = ga σ 12 s) (ht : ∀ i, i < e → τ' i = τ i) :
    ∀ {t : Tr}, (∀ c a, t = .mulL c a → c % 8 < m) → XE σ τ e t → XE σ' τ' e t
  | .num 0, _, h => by simp only [XE] at *; rw [h1, h2, h3, h4]; exact h
  | .num (n + 1), _, h => by simp only [XE] at *; rw [h1, h2, h3, h4]; exact h
  | .var i, _, h => by simp only [XE] at *; rw [h1, h2, h3, h4]; exact h
  | .mulL c a, q, h => by
    have := q c a rfl
    simp only [XE] at *
    rw [h1, h2, h3, h4, h5 _ this, h6 _ this, h7 _ this]
    obtain ⟨a1, a2, a3, a4, i, b1, b2, b3, b4, b5⟩ := h
    exact ⟨a1, a2, a3, a4, i, b1, b2, b3, b4, (ht i b1).trans b5⟩
  | .mulR a k, _, h => by
    simp only [XE] at *
    rw [h1, h2, h3, h4]
    obtain ⟨a1, a2, i, b1, b2, b3, b5⟩ := h
    exact ⟨a1, a2, i, b1, b2, b3, (ht i b1).trans b5⟩
  | .add (.mulL k a) b, _, h => by
    simp only [XE] at *
    rw [h1, h2, h3, h4]
    obtain ⟨a1, a2, i, j, b1, b2, b3, b4, b5, b6⟩ := h
    exact ⟨a1, a2, i, j, b1, b2, b3, b4, (ht i b1).trans b5, (ht j b2).trans b6⟩
theorem ME_mono {ρ ρ' : St} {τ τ' : Nat → Tr} {e m : Nat} (h1 : ga ρ' 3 e = ga ρ 3 e) (h2 : gb ρ' 1 e = gb ρ 1 e) (h3 : ga ρ' 4 e = ga ρ 4 e) (h4 : ga ρ' 5 e = ga ρ 5 e) (h5 : ga ρ' 6 e = ga ρ 6 e)
    (h6 : ∀ s, s < m → ga ρ' 10 s = ga ρ 10 s) (ht : ∀ i, i < e → τ' i = τ i) :
    ∀ {t : Tr}, (∀ c a, t = .mulL c a → c % 8 < m) → ME ρ τ e t → ME ρ' τ' e t
  | .num 0, _, h => by simp only [ME] at *; rw [h1, h5]; exact h
  | .num (n + 1), _, h => by simp only [ME] at *; rw [h1, h2, h5]; exact h
  | .var i, _, h => by simp only [ME] at *; rw [h1, h3, h4, h5]; exact h
  | .mulL c a, q, h => by
    have := q c a rfl
    simp only [ME] at *
    rw [h1, h3, h5, h6 _ this]
    obtain ⟨a1, a2, a3, i, b1, b2, b3⟩ := h
    exact ⟨a1, a2, a3, i, b1, b2, (ht i b1).trans b3⟩
  | .mulR a k, _, h => by
    simp only [ME] at *
    rw [h1, h3, h5]
    obtain ⟨a1, a2, i, b1, b2, b5⟩ := h
    exact ⟨a1, a2, i, b1, b2, (ht i b1).trans b5⟩
  | .add (.mulL k a) b, _, h => by
    simp only [ME] at *
    rw [h1, h3, h4, h5]
    obtain ⟨a1, a2, i, j, b1, b2, b3, b4, b5, b6⟩ := h
    exact ⟨a1, a2, i, j, b1, b2, b3, b4, (ht i b1).trans b5, (ht j b2).trans b6⟩

