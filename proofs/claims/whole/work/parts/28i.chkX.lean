/-! the class's checks: columns, aggregates (own rows) -/
def oo (τ : Nat → Tr) (x : Int32) : Option Tr := if x < 0 then none else some (τ x.toNatClampNeg)
theorem oo_j {τ : Nat → Tr} {j : Nat} (h : j < 2 ^ 31) : oo τ (nI j) = some (τ j) := by unfold oo; rw [if_neg (nI_pos h), nI_clamp h]
theorem oo_no {τ : Nat → Tr} : oo τ (-1) = none := rfl
theorem rf_j {τ : Nat → Tr} {n j : Nat} (h : j < n) (hn : n ≤ 60) : RF τ n (nI j) (oo τ (nI j)) := by rw [oo_j (by omega)]; exact ⟨j, h, rfl, rfl⟩
theorem rf_cnd {τ : Nat → Tr} {n : Nat} {x y : Int32} (hn : n ≤ 60) (h : Cnd x y n τ) : RF τ n x (oo τ x) := by
  rcases h with h | ⟨j, h1, h2, h3, h4⟩
  · rw [h.1]; exact rfl
  · rw [h2]; exact rf_j h1 hn
theorem rf_vle {τ : Nat → Tr} {n : Nat} {x y : Int32} (hn : n ≤ 60) (h : Vle x y n τ) : RF τ n x (oo τ x) := by
  obtain ⟨j, h1, h2, h3, h4⟩ := h
  rw [h2]; exact rf_j h1 hn
theorem rf_on {σ ρ : St} {τ : Nat → Tr} {nt n k : Nat} (hn : n ≤ 60) (h : IvS σ ρ nt n τ k) : RF τ n (ga σ 15 k) (oo τ (ga σ 15 k)) := by
  obtain ⟨t, hw, h1, h2, h3, h4, h5, h6, h7, h8⟩ := h
  rcases h8 with h8 | ⟨h8, j, g1, g2, g3, g4⟩
  · rw [h8.2.1]; exact rfl
  · rw [g2]; exact rf_j g1 hn
theorem os_tcb12 {σ ρ : St} {n m : Nat} {τ : Nat → Tr} {x : Int32} {o : Option Tr} (hE : IvE σ ρ n m τ) (h : RF τ n x o) : os tcb o < 2 ^ 12 ∧ os tab o < 2 ^ 8 := by
  cases o with
  | none => exact ⟨by decide, by decide⟩
  | some t =>
    obtain ⟨i, hi, -, rfl⟩ := h
    exact ⟨tcb_12 (hE.2.2.2.2.2.2.1 i hi).2.2.1, tab_8 (hE.2.2.2.2.2.2.1 i hi).2.2.1⟩
theorem x_bI0 (N : Nat) (hN : 100 < N) {σ ρ : St} {n m c : Nat} {τ : Nat → Tr} (hE : IvE σ ρ n m τ) (hc : c ≤ 4) (hr : ∀ k, k < c → RF τ n (ga σ 16 k) (oo τ (ga σ 16 k))) : f_C_bitsIn N σ (nI c) = some (nI (orB (fun k => os tcb (oo τ (ga σ 16 k))) c), σ) := by
  have key : ∀ (d i fu : Nat), i + d = c → d < fu → f_C_bitsIn_6 N fu σ (nI c) (nI (orB (fun k => os tcb (oo τ (ga σ 16 k))) i)) (nI i) = some (nI (orB (fun k => os tcb (oo τ (ga σ 16 k))) c), σ) := by
    intro d
    induction d with
    | zero =>
      intro i fu hi hfu
      obtain ⟨fu, rfl⟩ : ∃ q, fu = q + 1 := ⟨fu - 1, by omega⟩
      show f_C_bitsIn_6_b N (f_C_bitsIn_6 N fu) σ _ _ _ = _
      unfold f_C_bitsIn_6_b
      have : i = c := by omega
      subst this
      rw [if_pos (nI_le (Nat.le_refl _) (by omega))]
    | succ d ih =>
      intro i fu hi hfu
      obtain ⟨fu, rfl⟩ : ∃ q, fu = q + 1 := ⟨fu - 1, by omega⟩
      show f_C_bitsIn_6_b N (f_C_bitsIn_6 N fu) σ _ _ _ = _
      unfold f_C_bitsIn_6_b
      rw [if_neg (nI_ge (by omega) (by omega)), ckb_nI (show i < 4 by omega) (by decide), nI_clamp (show i < 2 ^ 31 by omega), (x_bA hE (hr i (by omega))).1, bd_eq, nI_or, nI_1]
      exact ih (i + 1) fu (by omega) (by omega)
  exact key c 0 N (by omega) (by omega)
theorem x_bI1 (N : Nat) (hN : 100 < N) {σ ρ : St} {n m c : Nat} {τ : Nat → Tr} (hE : IvE σ ρ n m τ) (hc : c ≤ 6) (hr : ∀ k, k < c → RF τ n (ga σ 17 k) (oo τ (ga σ 17 k))) : f_C_bitsIn_1 N σ (nI c) = some (nI (orB (fun k => os tcb (oo τ (ga σ 17 k))) c), σ) := by
  have key : ∀ (d i fu : Nat), i + d = c → d < fu → f_C_bitsIn_1_6 N fu σ (nI c) (nI (orB (fun k => os tcb (oo τ (ga σ 17 k))) i)) (nI i) = some (nI (orB (fun k => os tcb (oo τ (ga σ 17 k))) c), σ) := by
    intro d
    induction d with
    | zero =>
      intro i fu hi hfu
      obtain ⟨fu, rfl⟩ : ∃ q, fu = q + 1 := ⟨fu - 1, by omega⟩
      show f_C_bitsIn_1_6_b N (f_C_bitsIn_1_6 N fu) σ _ _ _ = _
      unfold f_C_bitsIn_1_6_b
      have : i = c := by omega
      subst this
      rw [if_pos (nI_le (Nat.le_refl _) (by omega))]
    | succ d ih =>
      intro i fu hi hfu
      obtain ⟨fu, rfl⟩ : ∃ q, fu = q + 1 := ⟨fu - 1, by omega⟩
      show f_C_bitsIn_1_6_b N (f_C_bitsIn_1_6 N fu) σ _ _ _ = _
      unfold f_C_bitsIn_1_6_b
      rw [if_neg (nI_ge (by omega) (by omega)), ckb_nI (show i < 6 by omega) (by decide), nI_clamp (show i < 2 ^ 31 by omega), (x_bA hE (hr i (by omega))).1, bd_eq, nI_or, nI_1]
      exact ih (i + 1) fu (by omega) (by omega)
  exact key c 0 N (by omega) (by omega)
theorem x_bI2 (N : Nat) (hN : 100 < N) {σ ρ : St} {n m c : Nat} {τ : Nat → Tr} (hE : IvE σ ρ n m τ) (hc : c ≤ 3) (hr : ∀ k, k < c → RF τ n (ga σ 15 k) (oo τ (ga σ 15 k))) : f_C_bitsIn_2 N σ (nI c) = some (nI (orB (fun k => os tab (oo τ (ga σ 15 k))) c), σ) := by
  have key : ∀ (d i fu : Nat), i + d = c → d < fu → f_C_bitsIn_2_6 N fu σ (nI c) (nI (orB (fun k => os tab (oo τ (ga σ 15 k))) i)) (nI i) = some (nI (orB (fun k => os tab (oo τ (ga σ 15 k))) c), σ) := by
    intro d
    induction d with
    | zero =>
      intro i fu hi hfu
      obtain ⟨fu, rfl⟩ : ∃ q, fu = q + 1 := ⟨fu - 1, by omega⟩
      show f_C_bitsIn_2_6_b N (f_C_bitsIn_2_6 N fu) σ _ _ _ = _
      unfold f_C_bitsIn_2_6_b
      have : i = c := by omega
      subst this
      rw [if_pos (nI_le (Nat.le_refl _) (by omega))]
    | succ d ih =>
      intro i fu hi hfu
      obtain ⟨fu, rfl⟩ : ∃ q, fu = q + 1 := ⟨fu - 1, by omega⟩
      show f_C_bitsIn_2_6_b N (f_C_bitsIn_2_6 N fu) σ _ _ _ = _
      unfold f_C_bitsIn_2_6_b
      rw [if_neg (nI_ge (by omega) (by omega)), ckb_nI (show i < 3 by omega) (by decide), nI_clamp (show i < 2 ^ 31 by omega), (x_bA hE (hr i (by omega))).2, bd_eq, nI_or, nI_1]
      exact ih (i + 1) fu (by omega) (by omega)
  exact key c 0 N (by omega) (by omega)
theorem x_bI3 (N : Nat) (hN : 100 < N) {σ ρ : St} {n m c : Nat} {τ : Nat → Tr} (hE : IvE σ ρ n m τ) (hc : c ≤ 4) (hr : ∀ k, k < c → RF τ n (ga σ 16 k) (oo τ (ga σ 16 k))) : f_C_bitsIn_3 N σ (nI c) = some (nI (orB (fun k => os tab (oo τ (ga σ 16 k))) c), σ) := by
  have key : ∀ (d i fu : Nat), i + d = c → d < fu → f_C_bitsIn_3_6 N fu σ (nI c) (nI (orB (fun k => os tab (oo τ (ga σ 16 k))) i)) (nI i) = some (nI (orB (fun k => os tab (oo τ (ga σ 16 k))) c), σ) := by
    intro d
    induction d with
    | zero =>
      intro i fu hi hfu
      obtain ⟨fu, rfl⟩ : ∃ q, fu = q + 1 := ⟨fu - 1, by omega⟩
      show f_C_bitsIn_3_6_b N (f_C_bitsIn_3_6 N fu) σ _ _ _ = _
      unfold f_C_bitsIn_3_6_b
      have : i = c := by omega
      subst this
      rw [if_pos (nI_le (Nat.le_refl _) (by omega))]
    | succ d ih =>
      intro i fu hi hfu
      obtain ⟨fu, rfl⟩ : ∃ q, fu = q + 1 := ⟨fu - 1, by omega⟩
      show f_C_bitsIn_3_6_b N (f_C_bitsIn_3_6 N fu) σ _ _ _ = _
      unfold f_C_bitsIn_3_6_b
      rw [if_neg (nI_ge (by omega) (by omega)), ckb_nI (show i < 4 by omega) (by decide), nI_clamp (show i < 2 ^ 31 by omega), (x_bA hE (hr i (by omega))).2, bd_eq, nI_or, nI_1]
      exact ih (i + 1) fu (by omega) (by omega)
  exact key c 0 N (by omega) (by omega)
theorem x_bI4 (N : Nat) (hN : 100 < N) {σ ρ : St} {n m c : Nat} {τ : Nat → Tr} (hE : IvE σ ρ n m τ) (hc : c ≤ 6) (hr : ∀ k, k < c → RF τ n (ga σ 17 k) (oo τ (ga σ 17 k))) : f_C_bitsIn_4 N σ (nI c) = some (nI (orB (fun k => os tab (oo τ (ga σ 17 k))) c), σ) := by
  have key : ∀ (d i fu : Nat), i + d = c → d < fu → f_C_bitsIn_4_6 N fu σ (nI c) (nI (orB (fun k => os tab (oo τ (ga σ 17 k))) i)) (nI i) = some (nI (orB (fun k => os tab (oo τ (ga σ 17 k))) c), σ) := by
    intro d
    induction d with
    | zero =>
      intro i fu hi hfu
      obtain ⟨fu, rfl⟩ : ∃ q, fu = q + 1 := ⟨fu - 1, by omega⟩
      show f_C_bitsIn_4_6_b N (f_C_bitsIn_4_6 N fu) σ _ _ _ = _
      unfold f_C_bitsIn_4_6_b
      have : i = c := by omega
      subst this
      rw [if_pos (nI_le (Nat.le_refl _) (by omega))]
    | succ d ih =>
      intro i fu hi hfu
      obtain ⟨fu, rfl⟩ : ∃ q, fu = q + 1 := ⟨fu - 1, by omega⟩
      show f_C_bitsIn_4_6_b N (f_C_bitsIn_4_6 N fu) σ _ _ _ = _
      unfold f_C_bitsIn_4_6_b
      rw [if_neg (nI_ge (by omega) (by omega)), ckb_nI (show i < 6 by omega) (by decide), nI_clamp (show i < 2 ^ 31 by omega), (x_bA hE (hr i (by omega))).2, bd_eq, nI_or, nI_1]
      exact ih (i + 1) fu (by omega) (by omega)
  exact key c 0 N (by omega) (by omega)
def CKo (ρ : St) (w : Nat → Nat) (o : Option Tr) (lv : Nat) : Prop := ∀ b, (os tcb o).testBit b = true → Pc ρ w lv b
/-- every column that is named is there -/
def ColsOk (σ ρ : St) (w : Nat → Nat) (τ : Nat → Tr) (ns ng ni : Nat) : Prop := (∀ k, k < ns → CKo ρ w (oo τ (ga σ 15 k)) (k + 1)) ∧ CKo ρ w (oo τ (gi σ 4)) ns ∧ CKo ρ w (oo τ (gi σ 5)) ns ∧ (∀ k, k < ng → CKo ρ w (oo τ (ga σ 16 k)) ns) ∧ (∀ k, k < ni → CKo ρ w (oo τ (ga σ 17 k)) ns)
/-- no aggregate comes too early -/
def AggOk (σ : St) (τ : Nat → Tr) (ns ng : Nat) : Prop := (∀ k, k < ns → os tab (oo τ (ga σ 15 k)) = 0) ∧ os tab (oo τ (gi σ 4)) = 0 ∧ ∀ k, k < ng → os tab (oo τ (ga σ 16 k)) = 0
/-- the aggregates that are asked for, as bits -/
def late (σ : St) (τ : Nat → Tr) (ni : Nat) : Nat := orB (fun k => os tab (oo τ (ga σ 17 k))) ni ||| os tab (oo τ (gi σ 5))
theorem cuN_12 {ρ : St} {w : Nat → Nat} {i : Nat} (h3 : i ≤ 3) (hw : ∀ k, k < i → w (tb ρ k) ≤ 4) : cuN ρ w i < 2 ^ 12 := by
  refine orB_lt (fun k hk => ?_)
  have := hw k hk
  rw [Nat.shiftLeft_eq]
  have e : 2 ^ 12 = 2 ^ (12 - 4 * k) * 2 ^ (4 * k) := by rw [← Nat.pow_add]; congr 1; omega
  rw [e]
  apply Nat.mul_lt_mul_of_pos_right _ (Nat.two_pow_pos _)
  have : 2 ^ w (tb ρ k) ≤ 2 ^ (12 - 4 * k) := Nat.pow_le_pow_right (by decide) (by omega)
  have := Nat.two_pow_pos (w (tb ρ k))
  omega
theorem x_unknown (N : Nat) (hN : 100 < N) {σ ρ : St} {nt n m ns ng ni no : Nat} {w h : Nat → Nat} {τ : Nat → Tr} (d : Dat σ ρ nt n m ns ng ni no w h τ) (h0 : 0 < ns) :
    ∃ r, f_C_hasUnknownColumn N σ = some (r, σ) ∧ (r = 0 ∨ r = 1) ∧ (r = 0 ↔ ColsOk σ ρ w τ ns ng ni) := by
  obtain ⟨hT, hE, hQ⟩ := id d
  have ns3 := hQ.1.1
  have h60 := hE.1
  have rf1 : ∀ k, k < ns → RF τ n (ga σ 15 k) (oo τ (ga σ 15 k)) := fun k hk => rf_on h60 (hQ.1.2.2.2 k hk)
  have rf2 : ∀ k, k < ng → RF τ n (ga σ 16 k) (oo τ (ga σ 16 k)) := fun k hk => rf_vle h60 (hQ.2.1.2.2.2 k hk)
  have rf3 : ∀ k, k < ni → RF τ n (ga σ 17 k) (oo τ (ga σ 17 k)) := fun k hk => rf_vle h60 (hQ.2.2.1.2.2.2 k hk)
  have rf4 := rf_cnd h60 hQ.2.2.2.2.1
  have rf5 := rf_cnd h60 hQ.2.2.2.2.2.1
  have w4 : ∀ i, i ≤ ns → ∀ k, k < i → w (tb ρ k) ≤ 4 := fun i hi k hk => (hT.2.2.2.1 _ (src_t hQ (show k < ns by omega) hT.1).1).2.1
  have ck : ∀ {a i : Nat}, a < 2 ^ 12 → i ≤ ns → ((nI a &&& (nI (cuN ρ w i) ^^^ (-1 : Int32))) = 0 ↔ ∀ b, a.testBit b = true → Pc ρ w i b) := by
    intro a i ha hi
    rw [bits_sub ha (cuN_12 (by omega) (w4 i hi))]
    constructor
    · intro z b hb; exact (cuN_bit (w4 i hi)).mp (z b hb)
    · intro z b hb; exact (cuN_bit (w4 i hi)).mpr (z b hb)
  have key : ∀ (dd i fu : Nat), i + dd = ns → dd < fu → ∃ r, f_C_hasUnknownColumn_2 N fu σ (nI i) = some (r, σ) ∧ (r = 0 ∨ r = 1) ∧ (r = 0 ↔ ((∀ k, i ≤ k → k < ns → CKo ρ w (oo τ (ga σ 15 k)) (k + 1)) ∧ CKo ρ w (oo τ (gi σ 4)) ns ∧ CKo ρ w (oo τ (gi σ 5)) ns ∧ (∀ k, k < ng → CKo ρ w (oo τ (ga σ 16 k)) ns) ∧ (∀ k, k < ni → CKo ρ w (oo τ (ga σ 17 k)) ns))) := by
    intro dd
    induction dd with
    | zero =>
      intro i fu hi hfu
      obtain ⟨fu, rfl⟩ : ∃ q, fu = q + 1 := ⟨fu - 1, by omega⟩
      have hi' : i = ns := by omega
      subst hi'
      have e0 : f_C_hasUnknownColumn_2 N (fu + 1) σ (nI i) = f_C_hasUnknownColumn_2_b N (f_C_hasUnknownColumn_2 N fu) σ (nI i) := rfl
      rw [e0]
      unfold f_C_hasUnknownColumn_2_b
      rw [hQ.1.2.1, if_pos (nI_le (Nat.le_refl _) (by omega)), (x_bA hE rf4).1, bd_eq, (x_bA hE rf5).1, bd_eq, hQ.2.1.2.1, x_bI0 N hN hE hQ.2.1.1 rf2, bd_eq, hQ.2.2.1.2.1, x_bI1 N hN hE hQ.2.2.1.1 rf3, bd_eq, hQ.1.2.1]
      obtain ⟨i', rfl⟩ : ∃ q, i = q + 1 := ⟨i - 1, by omega⟩
      rw [nI_pred, x_upto N hN hT hQ (by omega), bd_eq, nI_or, nI_or, nI_or]
      have lt : os tcb (oo τ (gi σ 4)) ||| os tcb (oo τ (gi σ 5)) ||| orB (fun k => os tcb (oo τ (ga σ 16 k))) ng ||| orB (fun k => os tcb (oo τ (ga σ 17 k))) ni < 2 ^ 12 :=
        Nat.or_lt_two_pow (Nat.or_lt_two_pow (Nat.or_lt_two_pow (os_tcb12 hE rf4).1 (os_tcb12 hE rf5).1) (orB_lt (fun k hk => (os_tcb12 hE (rf2 k hk)).1))) (orB_lt (fun k hk => (os_tcb12 hE (rf3 k hk)).1))
      have ee := ck lt (Nat.le_refl (i' + 1))
      have eq2 : (∀ b, (os tcb (oo τ (gi σ 4)) ||| os tcb (oo τ (gi σ 5)) ||| orB (fun k => os tcb (oo τ (ga σ 16 k))) ng ||| orB (fun k => os tcb (oo τ (ga σ 17 k))) ni).testBit b = true → Pc ρ w (i' + 1) b) ↔ ((∀ k, i' + 1 ≤ k → k < i' + 1 → CKo ρ w (oo τ (ga σ 15 k)) (k + 1)) ∧ CKo ρ w (oo τ (gi σ 4)) (i' + 1) ∧ CKo ρ w (oo τ (gi σ 5)) (i' + 1) ∧ (∀ k, k < ng → CKo ρ w (oo τ (ga σ 16 k)) (i' + 1)) ∧ (∀ k, k < ni → CKo ρ w (oo τ (ga σ 17 k)) (i' + 1))) := by
        simp only [Nat.testBit_or, Bool.or_eq_true, orB_bit]
        constructor
        · intro z
          exact ⟨fun k h1 h2 => by omega, fun b hb => z b (Or.inl (Or.inl (Or.inl hb))), fun b hb => z b (Or.inl (Or.inl (Or.inr hb))), fun k hk b hb => z b (Or.inl (Or.inr ⟨k, hk, hb⟩)), fun k hk b hb => z b (Or.inr ⟨k, hk, hb⟩)⟩
        · rintro ⟨-, z1, z2, z3, z4⟩ b (((y | y) | ⟨k, hk, y⟩) | ⟨k, hk, y⟩)
          · exact z1 b y
          · exact z2 b y
          · exact z3 k hk b y
          · exact z4 k hk b y
      rw [← eq2, ← ee]
      split
      · rename_i c; exact ⟨0, rfl, Or.inl rfl, fun _ => c, fun _ => rfl⟩
      · rename_i c; exact ⟨1, rfl, Or.inr rfl, fun z => absurd z (by decide), fun z => absurd z c⟩
    | succ dd ih =>
      intro i fu hi hfu
      obtain ⟨fu, rfl⟩ : ∃ q, fu = q + 1 := ⟨fu - 1, by omega⟩
      obtain ⟨r, k1, k2, k3⟩ := ih (i + 1) fu (by omega) (by omega)
      have e0 : f_C_hasUnknownColumn_2 N (fu + 1) σ (nI i) = f_C_hasUnknownColumn_2_b N (f_C_hasUnknownColumn_2 N fu) σ (nI i) := rfl
      rw [e0]
      unfold f_C_hasUnknownColumn_2_b
      rw [hQ.1.2.1, if_neg (nI_ge (by omega) (by omega)), ckb_nI (show i < 3 by omega) (by decide), nI_clamp (show i < 2 ^ 31 by omega), (x_bA hE (rf1 i (by omega))).1, bd_eq, x_upto N hN hT hQ (show i < ns by omega), bd_eq, nI_1, k1]
      have ee := ck (os_tcb12 hE (rf1 i (by omega))).1 (show i + 1 ≤ ns by omega)
      by_cases c : (nI (os tcb (oo τ (ga σ 15 i))) &&& (nI (cuN ρ w (i + 1)) ^^^ (-1 : Int32))) = 0
      · rw [if_pos c]
        refine ⟨r, rfl, k2, k3.trans ?_⟩
        have c' := ee.mp c
        constructor
        · rintro ⟨z1, z2⟩
          refine ⟨fun k h1 h2 => ?_, z2⟩
          by_cases y : k = i
          · subst y; exact c'
          · exact z1 k (by omega) h2
        · rintro ⟨z1, z2⟩
          exact ⟨fun k h1 h2 => z1 k (by omega) h2, z2⟩
      · rw [if_neg c]
        refine ⟨1, rfl, Or.inr rfl, fun z => absurd z (by decide), fun z => absurd (ee.mpr (z.1 i (Nat.le_refl _) (by omega))) c⟩
  obtain ⟨r, k1, k2, k3⟩ := key ns 0 N (by omega) (by omega)
  refine ⟨r, k1, k2, k3.trans ?_⟩
  constructor
  · rintro ⟨z1, z2⟩; exact ⟨fun k hk => z1 k (by omega) hk, z2⟩
  · rintro ⟨z1, z2⟩; exact ⟨fun k _ hk => z1 k hk, z2⟩
theorem nI_0iff {a : Nat} (h : a < 2 ^ 31) : nI a = 0 ↔ a = 0 := nI_z h
theorem x_early (N : Nat) (hN : 100 < N) {σ ρ : St} {nt n m ns ng ni no : Nat} {w h : Nat → Nat} {τ : Nat → Tr} (d : Dat σ ρ nt n m ns ng ni no w h τ) :
    ∃ r, f_C_hasEarlyAggregate N σ = some (r, σ) ∧ (r = 0 ∨ r = 1) ∧ (r = 0 ↔ AggOk σ τ ns ng) := by
  obtain ⟨hT, hE, hQ⟩ := id d
  have h60 := hE.1
  have rf1 : ∀ k, k < ns → RF τ n (ga σ 15 k) (oo τ (ga σ 15 k)) := fun k hk => rf_on h60 (hQ.1.2.2.2 k hk)
  have rf2 : ∀ k, k < ng → RF τ n (ga σ 16 k) (oo τ (ga σ 16 k)) := fun k hk => rf_vle h60 (hQ.2.1.2.2.2 k hk)
  have rf4 := rf_cnd h60 hQ.2.2.2.2.1
  unfold f_C_hasEarlyAggregate
  rw [hQ.1.2.1, x_bI2 N hN hE hQ.1.1 rf1, bd_eq, (x_bA hE rf4).2, bd_eq, hQ.2.1.2.1, x_bI3 N hN hE hQ.2.1.1 rf2, bd_eq, nI_or, nI_or]
  have lt : orB (fun k => os tab (oo τ (ga σ 15 k))) ns ||| os tab (oo τ (gi σ 4)) ||| orB (fun k => os tab (oo τ (ga σ 16 k))) ng < 2 ^ 8 :=
    Nat.or_lt_two_pow (Nat.or_lt_two_pow (orB_lt (fun k hk => (os_tcb12 hE (rf1 k hk)).2)) (os_tcb12 hE rf4).2) (orB_lt (fun k hk => (os_tcb12 hE (rf2 k hk)).2))
  have e : nI (orB (fun k => os tab (oo τ (ga σ 15 k))) ns ||| os tab (oo τ (gi σ 4)) ||| orB (fun k => os tab (oo τ (ga σ 16 k))) ng) = 0 ↔ AggOk σ τ ns ng := by
    rw [nI_0iff (by omega)]
    simp only [Nat.or_eq_zero_iff, orB_zero]
    constructor
    · rintro ⟨⟨z1, z2⟩, z3⟩; exact ⟨z1, z2, z3⟩
    · rintro ⟨z1, z2, z3⟩; exact ⟨⟨z1, z2⟩, z3⟩
  rw [← e]
  split
  · rename_i c; exact ⟨0, rfl, Or.inl rfl, fun _ => c, fun _ => rfl⟩
  · rename_i c; exact ⟨1, rfl, Or.inr rfl, fun z => absurd z (by decide), fun z => absurd z c⟩
theorem x_late (N : Nat) (hN : 100 < N) {σ ρ : St} {nt n m ns ng ni no : Nat} {w h : Nat → Nat} {τ : Nat → Tr} (d : Dat σ ρ nt n m ns ng ni no w h τ) : f_C_lateAggregates N σ = some (nI (late σ τ ni), σ) ∧ late σ τ ni < 2 ^ 8 := by
  obtain ⟨hT, hE, hQ⟩ := id d
  have h60 := hE.1
  have rf3 : ∀ k, k < ni → RF τ n (ga σ 17 k) (oo τ (ga σ 17 k)) := fun k hk => rf_vle h60 (hQ.2.2.1.2.2.2 k hk)
  have rf5 := rf_cnd h60 hQ.2.2.2.2.2.1
  unfold f_C_lateAggregates
  rw [hQ.2.2.1.2.1, x_bI4 N hN hE hQ.2.2.1.1 rf3, bd_eq, (x_bA hE rf5).2, bd_eq, nI_or]
  exact ⟨rfl, Nat.or_lt_two_pow (orB_lt (fun k hk => (os_tcb12 hE (rf3 k hk)).2)) (os_tcb12 hE rf5).2⟩
/-- groups are asked for -/
def Grp (σ : St) (τ : Nat → Tr) (ng ni : Nat) : Prop := 0 < ng ∨ ¬ gi σ 5 = -1 ∨ ¬ late σ τ ni = 0
theorem x_grouped (N : Nat) (hN : 100 < N) {σ ρ : St} {nt n m ns ng ni no : Nat} {w h : Nat → Nat} {τ : Nat → Tr} (d : Dat σ ρ nt n m ns ng ni no w h τ) : ∃ r, f_C_isGrouped N σ = some (r, σ) ∧ (r = 0 ∨ r = 1) ∧ (r = 1 ↔ Grp σ τ ng ni) := by
  obtain ⟨hl, ll⟩ := x_late N hN d
  obtain ⟨hT, hE, hQ⟩ := id d
  unfold f_C_isGrouped Grp
  rw [hQ.2.1.2.1]
  have g4 := hQ.2.1.1
  by_cases c : 0 < ng
  · rw [if_pos (show (0 : Int32) < nI ng from nI_lt (a := 0) c (by omega))]
    exact ⟨1, rfl, Or.inr rfl, fun _ => Or.inl c, fun _ => rfl⟩
  · rw [if_neg (show ¬ (0 : Int32) < nI ng from nI_nlt (a := 0) (by omega) (by decide))]
    by_cases c2 : gi σ 5 = -1
    · rw [if_pos c2, hl, bd_eq]
      by_cases c3 : nI (late σ τ ni) = 0
      · rw [if_pos c3]
        exact ⟨0, rfl, Or.inl rfl, fun z => absurd z (by decide), fun z => by rcases z with z | z | z; exact absurd z c; exact absurd c2 z; exact absurd ((nI_0iff (by omega)).mp c3) z⟩
      · rw [if_neg c3]
        exact ⟨1, rfl, Or.inr rfl, fun _ => Or.inr (Or.inr (fun z => c3 ((nI_0iff (by omega)).mpr z))), fun _ => rfl⟩
    · rw [if_neg c2]
      exact ⟨1, rfl, Or.inr rfl, fun _ => Or.inr (Or.inl c2), fun _ => rfl⟩

