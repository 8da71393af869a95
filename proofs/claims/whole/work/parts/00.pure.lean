/-! the pure words that functions are written in: a name, a call, checks; and a state by regions (own rows) -/
def nm {α β : Type} (x : α) (k : α → Option β) : Option β := k x
theorem nm_some {α β : Type} {x : α} {k : α → Option β} {r : β} (h : nm x k = some r) : ∃ z, z = x ∧ k z = some r := ⟨x, rfl, h⟩
def bd {α β γ : Type} (x : Option (α × β)) (k : α → β → Option γ) : Option γ := match x with
  | none => none
  | some q => k q.1 q.2
theorem bd_some {α β γ : Type} {x : Option (α × β)} {k : α → β → Option γ} {r : γ} (h : bd x k = some r) : ∃ a b, x = some (a, b) ∧ k a b = some r := by
  cases x with
  | none => cases h
  | some q => exact ⟨q.1, q.2, rfl, h⟩
def bg {α β γ δ : Type} (x : Option (α × β × γ)) (k : α → β → γ → Option δ) : Option δ := match x with
  | none => none
  | some q => k q.1 q.2.1 q.2.2
theorem bg_some {α β γ δ : Type} {x : Option (α × β × γ)} {k : α → β → γ → Option δ} {r : δ} (h : bg x k = some r) : ∃ a b c, x = some (a, b, c) ∧ k a b c = some r := by
  cases x with
  | none => cases h
  | some q => exact ⟨q.1, q.2.1, q.2.2, rfl, h⟩
def ckb {α : Type} (i : Int32) (n : Nat) (k : Option α) : Option α := if i < 0 ∨ n ≤ i.toNatClampNeg then none else k
theorem ckb_some {α : Type} {i : Int32} {n : Nat} {k : Option α} {r : α} (h : ckb i n k = some r) : vp_in i n ∧ k = some r := by
  unfold ckb at h
  by_cases c : i < 0 ∨ n ≤ i.toNatClampNeg
  · rw [if_pos c] at h; cases h
  · rw [if_neg c] at h; exact ⟨c, h⟩
def ckzi {α : Type} (y : Int32) (k : Option α) : Option α := if y = 0 then none else k
theorem ckzi_some {α : Type} {y : Int32} {k : Option α} {r : α} (h : ckzi y k = some r) : ¬ y = 0 ∧ k = some r := by
  unfold ckzi at h
  by_cases c : y = 0
  · rw [if_pos c] at h; cases h
  · rw [if_neg c] at h; exact ⟨c, h⟩
def ckzl {α : Type} (y : Int64) (k : Option α) : Option α := if y = 0 then none else k
theorem ckzl_some {α : Type} {y : Int64} {k : Option α} {r : α} (h : ckzl y k = some r) : ¬ y = 0 ∧ k = some r := by
  unfold ckzl at h
  by_cases c : y = 0
  · rw [if_pos c] at h; cases h
  · rw [if_neg c] at h; exact ⟨c, h⟩
def ckc {α : Type} (i : Int32) (n len : Nat) (k : Option α) : Option α := if i < 0 ∨ len < i.toNatClampNeg + n then none else k
theorem ckc_some {α : Type} {i : Int32} {n len : Nat} {k : Option α} {r : α} (h : ckc i n len k = some r) : (¬ i < 0 ∧ i.toNatClampNeg + n ≤ len) ∧ k = some r := by
  unfold ckc at h
  by_cases c : i < 0 ∨ len < i.toNatClampNeg + n
  · rw [if_pos c] at h; cases h
  · rw [if_neg c] at h; exact ⟨⟨fun q => c (Or.inl q), Nat.not_lt.mp fun q => c (Or.inr q)⟩, h⟩
def ckt {α : Type} (v : Int32) (k : Option α) : Option α := if v = 0 ∨ v = 1 then k else none
theorem ckt_some {α : Type} {v : Int32} {k : Option α} {r : α} (h : ckt v k = some r) : (narrow .boolean (.int v) = .int v ∧ fits .boolean (.int v) = true) ∧ k = some r := by
  unfold ckt at h
  by_cases c : v = 0 ∨ v = 1
  · rw [if_pos c] at h
    refine ⟨?_, h⟩
    rcases c with rfl | rfl
    · exact ⟨rfl, rfl⟩
    · exact ⟨rfl, rfl⟩
  · rw [if_neg c] at h; cases h
theorem it_t {α : Type} {c : Prop} [Decidable c] {a b : Option α} {r : α} (h : (if c then a else b) = some r) (hc : c) : a = some r := by rw [if_pos hc] at h; exact h
theorem it_f {α : Type} {c : Prop} [Decidable c] {a b : Option α} {r : α} (h : (if c then a else b) = some r) (hc : ¬ c) : b = some r := by rw [if_neg hc] at h; exact h
abbrev St : Type := (Nat → Int32) × (Nat → Int64) × (Nat → Nat → Int32) × (Nat → Nat → Int64)
def gi (σ : St) (r : Nat) : Int32 := σ.1 r
def gl (σ : St) (r : Nat) : Int64 := σ.2.1 r
def ga (σ : St) (r : Nat) : Nat → Int32 := σ.2.2.1 r
def gb (σ : St) (r : Nat) : Nat → Int64 := σ.2.2.2 r
def si (σ : St) (r : Nat) (v : Int32) : St := (upd σ.1 r v, σ.2)
def sl (σ : St) (r : Nat) (v : Int64) : St := (σ.1, vp_updL σ.2.1 r v, σ.2.2)
def sa (σ : St) (r : Nat) (f : Nat → Int32) : St := (σ.1, σ.2.1, va_up σ.2.2.1 r f, σ.2.2.2)
def sb (σ : St) (r : Nat) (f : Nat → Int64) : St := (σ.1, σ.2.1, σ.2.2.1, va_up σ.2.2.2 r f)
def wa (σ : St) (r : Nat) (i x : Int32) : St := sa σ r (upd (ga σ r) i.toNatClampNeg x)
def wz (σ : St) (r : Nat) (i x : Int32) : St := sa σ r (upd (ga σ r) i.toNatClampNeg (vp_nar .boolean x))
def wl (σ : St) (r : Nat) (i : Int32) (x : Int64) : St := sb σ r (vp_updL (gb σ r) i.toNatClampNeg x)

