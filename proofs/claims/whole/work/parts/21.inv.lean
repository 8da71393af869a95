/-! what holds between the class and the reference, from call to call (own rows) -/
def IvS (σ ρ : St) (nt n : Nat) (τ : Nat → Tr) (k : Nat) : Prop := ∃ t hw, t < nt ∧ hw ≤ 2 ∧ (k = 0 → hw = 0) ∧ ga σ 13 k = nI t ∧ ga ρ 11 k = nI t ∧ ga σ 14 k = nI hw ∧ ga ρ 12 k = nI hw ∧
  ((hw = 0 ∧ ga σ 15 k = -1 ∧ ga ρ 13 k = -1) ∨ (hw ≠ 0 ∧ ∃ j, j < n ∧ ga σ 15 k = nI j ∧ ga ρ 13 k = nI j ∧ tru (τ j)))
/-- a condition: none on both sides, or one and the same -/
def Cnd (x y : Int32) (n : Nat) (τ : Nat → Tr) : Prop := (x = -1 ∧ y = -1) ∨ ∃ j, j < n ∧ x = nI j ∧ y = nI j ∧ tru (τ j)
def Vle (x y : Int32) (n : Nat) (τ : Nat → Tr) : Prop := ∃ j, j < n ∧ x = nI j ∧ y = nI j ∧ ¬ tru (τ j)
def IvO (σ ρ : St) (ni k : Nat) : Prop := ∃ j, j < ni ∧ ga σ 18 k = nI j ∧ ga ρ 16 k = nI j ∧ ga σ 19 k = ga ρ 17 k ∧ (ga ρ 17 k = 0 ∨ ga ρ 17 k = 1)
def IvH (σ ρ : St) : Prop := ∃ kp sk : Nat, kp ≤ 1000 ∧ sk ≤ 1000 ∧ gi σ 10 = nI kp ∧ gi ρ 10 = nI kp ∧ gi σ 11 = nI sk ∧ gi ρ 11 = nI sk ∧ gi σ 9 = gi ρ 9 ∧ (gi ρ 9 = 0 ∨ gi ρ 9 = 1)
def IvQ (σ ρ : St) (nt n : Nat) (τ : Nat → Tr) (ns ng ni no : Nat) : Prop :=
  (ns ≤ 3 ∧ gi σ 3 = nI ns ∧ gi ρ 3 = nI ns ∧ ∀ k, k < ns → IvS σ ρ nt n τ k) ∧
  (ng ≤ 4 ∧ gi σ 6 = nI ng ∧ gi ρ 6 = nI ng ∧ ∀ k, k < ng → Vle (ga σ 16 k) (ga ρ 14 k) n τ) ∧
  (ni ≤ 6 ∧ gi σ 7 = nI ni ∧ gi ρ 7 = nI ni ∧ ∀ k, k < ni → Vle (ga σ 17 k) (ga ρ 15 k) n τ) ∧
  (no ≤ 4 ∧ gi σ 8 = nI no ∧ gi ρ 8 = nI no ∧ ∀ k, k < no → IvO σ ρ ni k) ∧
  Cnd (gi σ 4) (gi ρ 4) n τ ∧ Cnd (gi σ 5) (gi ρ 5) n τ ∧ IvH σ ρ
/-- what earlier runs leave behind -/
def IvL (σ : St) : Prop := ∀ i, i < 3 → ∃ r, r ≤ 8 ∧ ga σ 23 i = nI r - 1
def Inv (_ : Bool) (σ ρ : St) : Prop := ∃ (nt n m ns ng ni no : Nat) (w h : Nat → Nat) (τ : Nat → Tr), IvT σ ρ nt w h ∧ IvE σ ρ n m τ ∧ IvQ σ ρ nt n τ ns ng ni no ∧ IvA σ ρ ∧ IvL σ
theorem cnd_up {x y : Int32} {n : Nat} {τ : Nat → Tr} {t : Tr} (h : Cnd x y n τ) : Cnd x y (n + 1) (up τ n t) := by
  rcases h with h | ⟨j, h1, h2, h3, h4⟩
  · exact Or.inl h
  · exact Or.inr ⟨j, by omega, h2, h3, by rw [up_lt h1]; exact h4⟩
theorem vle_up {x y : Int32} {n : Nat} {τ : Nat → Tr} {t : Tr} (h : Vle x y n τ) : Vle x y (n + 1) (up τ n t) := by
  obtain ⟨j, h1, h2, h3, h4⟩ := h
  exact ⟨j, by omega, h2, h3, by rw [up_lt h1]; exact h4⟩
theorem ivS_up {σ ρ : St} {nt n k : Nat} {τ : Nat → Tr} {t : Tr} (h : IvS σ ρ nt n τ k) : IvS σ ρ nt (n + 1) (up τ n t) k := by
  obtain ⟨t, hw, h1, h2, h3, h4, h5, h6, h7, h8⟩ := h
  refine ⟨t, hw, h1, h2, h3, h4, h5, h6, h7, ?_⟩
  rcases h8 with h8 | ⟨h8, j, g1, g2, g3, g4⟩
  · exact Or.inl h8
  · exact Or.inr ⟨h8, j, by omega, g2, g3, by rw [up_lt g1]; exact g4⟩
theorem ivQ_up {σ ρ : St} {nt n ns ng ni no : Nat} {τ : Nat → Tr} {t : Tr} (h : IvQ σ ρ nt n τ ns ng ni no) : IvQ σ ρ nt (n + 1) (up τ n t) ns ng ni no := by
  obtain ⟨⟨a1, a2, a3, a4⟩, ⟨b1, b2, b3, b4⟩, ⟨c1, c2, c3, c4⟩, d, e, f, g⟩ := h
  exact ⟨⟨a1, a2, a3, fun k hk => ivS_up (a4 k hk)⟩, ⟨b1, b2, b3, fun k hk => vle_up (b4 k hk)⟩, ⟨c1, c2, c3, fun k hk => vle_up (c4 k hk)⟩, d, cnd_up e, cnd_up f, g⟩
/-- a call's end: the same answer, and all is as it must be -/
def Fine {α : Type} (g : Bool) (o p : Option (α × St)) : Prop := ∃ (r : α) (σ' ρ' : St), o = some (r, σ') ∧ p = some (r, ρ') ∧ Inv g σ' ρ'
theorem i_table (N : Nat) (g : Bool) (σ ρ : St) (x : Int32) (H : Inv g σ ρ) : Fine g (f_Q_table N σ x) (f_M_table N ρ x) := by
  obtain ⟨nt, n, m, ns, ng, ni, no, w, h, τ, hT, hE, hQ, hA, hL⟩ := id H
  rcases s_table N hT.1 hT.2.1 hT.2.2.1 x with ⟨r, q1, q2⟩ | ⟨v, v1, v4, n6, q1, q2⟩
  · exact ⟨r, σ, ρ, q1, q2, H⟩
  · refine ⟨_, _, _, q1, q2, nt + 1, n, m, ns, ng, ni, no, _, h, τ, ivT_table hT v1 v4 n6, hE, ?_, hA, hL⟩
    obtain ⟨⟨a1, a2, a3, a4⟩, b⟩ := hQ
    refine ⟨⟨a1, a2, a3, fun k hk => ?_⟩, b⟩
    obtain ⟨t, hw, h1, hh⟩ := a4 k hk
    exact ⟨t, hw, by omega, hh⟩
theorem mwr_sb (f : Nat → Int64) (x : Int32) (o : Nat) (d c : Nat) (ρ : St) : (∀ q, gi (mwr f x o d c ρ) q = gi ρ q) ∧ (∀ q, q ≠ 2 → ga (mwr f x o d c ρ) q = ga ρ q) ∧ (∀ q, q ≠ 0 → gb (mwr f x o d c ρ) q = gb ρ q) :=
  ⟨fun q => mwr_gi f x o d c ρ q, fun q h => mwr_ga f x o d c ρ q h, fun q h => mwr_gb f x o d c ρ q h⟩
/-- the same data: tables, expressions, query -/
def SX (σ σ' : St) : Prop := (∀ r, r < 12 → gi σ' r = gi σ r) ∧ (∀ r, r < 20 → ga σ' r = ga σ r) ∧ (∀ r, r < 2 → gb σ' r = gb σ r)
def SM (ρ ρ' : St) : Prop := (∀ r, r < 12 → gi ρ' r = gi ρ r) ∧ (∀ r, r < 18 → ga ρ' r = ga ρ r) ∧ (∀ r, r < 2 → gb ρ' r = gb ρ r)
theorem SX.rfl {σ : St} : SX σ σ := ⟨fun _ _ => Eq.refl _, fun _ _ => Eq.refl _, fun _ _ => Eq.refl _⟩
theorem SM.rfl {σ : St} : SM σ σ := ⟨fun _ _ => Eq.refl _, fun _ _ => Eq.refl _, fun _ _ => Eq.refl _⟩
theorem SX.trans {a b c : St} (h : SX a b) (k : SX b c) : SX a c := ⟨fun r q => (k.1 r q).trans (h.1 r q), fun r q => (k.2.1 r q).trans (h.2.1 r q), fun r q => (k.2.2 r q).trans (h.2.2 r q)⟩
theorem SM.trans {a b c : St} (h : SM a b) (k : SM b c) : SM a c := ⟨fun r q => (k.1 r q).trans (h.1 r q), fun r q => (k.2.1 r q).trans (h.2.1 r q), fun r q => (k.2.2 r q).trans (h.2.2 r q)⟩
def kX (σ : St) : St := (fun r => if r < 12 then gi σ r else 0, fun _ => 0, fun r => if r < 20 then ga σ r else fun _ => 0, fun r => if r < 2 then gb σ r else fun _ => 0)
def kM (σ : St) : St := (fun r => if r < 12 then gi σ r else 0, fun _ => 0, fun r => if r < 18 then ga σ r else fun _ => 0, fun r => if r < 2 then gb σ r else fun _ => 0)
theorem SX.k {σ σ' : St} (h : SX σ σ') : kX σ' = kX σ := by
  unfold kX
  congr 1
  · funext r; by_cases c : r < 12 <;> simp [c]; exact h.1 r c
  · congr 2
    · funext r; by_cases c : r < 20 <;> simp [c]; exact h.2.1 r c
    · funext r; by_cases c : r < 2 <;> simp [c]; exact h.2.2 r c
theorem SM.k {σ σ' : St} (h : SM σ σ') : kM σ' = kM σ := by
  unfold kM
  congr 1
  · funext r; by_cases c : r < 12 <;> simp [c]; exact h.1 r c
  · congr 2
    · funext r; by_cases c : r < 18 <;> simp [c]; exact h.2.1 r c
    · funext r; by_cases c : r < 2 <;> simp [c]; exact h.2.2 r c
theorem ivT_k {σ ρ : St} {nt : Nat} {w h : Nat → Nat} : IvT (kX σ) (kM ρ) nt w h = IvT σ ρ nt w h := rfl
theorem ivE_k {σ ρ : St} {n m : Nat} {τ : Nat → Tr} : IvE (kX σ) (kM ρ) n m τ = IvE σ ρ n m τ := rfl
theorem ivQ_k {σ ρ : St} {nt n ns ng ni no : Nat} {τ : Nat → Tr} : IvQ (kX σ) (kM ρ) nt n τ ns ng ni no = IvQ σ ρ nt n τ ns ng ni no := rfl
theorem ivT_same {σ ρ σ' ρ' : St} {nt : Nat} {w h : Nat → Nat} (hx : SX σ σ') (hm : SM ρ ρ') (q : IvT σ ρ nt w h) : IvT σ' ρ' nt w h := by
  rw [← ivT_k, hx.k, hm.k, ivT_k]; exact q
theorem ivE_same {σ ρ σ' ρ' : St} {n m : Nat} {τ : Nat → Tr} (hx : SX σ σ') (hm : SM ρ ρ') (q : IvE σ ρ n m τ) : IvE σ' ρ' n m τ := by
  rw [← ivE_k, hx.k, hm.k, ivE_k]; exact q
theorem ivQ_same {σ ρ σ' ρ' : St} {nt n ns ng ni no : Nat} {τ : Nat → Tr} (hx : SX σ σ') (hm : SM ρ ρ') (q : IvQ σ ρ nt n τ ns ng ni no) : IvQ σ' ρ' nt n τ ns ng ni no := by
  rw [← ivQ_k, hx.k, hm.k, ivQ_k]; exact q

