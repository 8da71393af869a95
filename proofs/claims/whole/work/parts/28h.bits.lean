/-! bits: which columns and aggregates are in use (own rows) -/
theorem bits_sub {a c : Nat} (ha : a < 2 ^ 12) (hc : c < 2 ^ 12) : (nI a &&& (nI c ^^^ (-1 : Int32))) = 0 ↔ ∀ b, a.testBit b = true → c.testBit b = true := by
  have e1 : (nI a &&& (nI c ^^^ (-1 : Int32))).toBitVec = BitVec.ofNat 32 a &&& ~~~ BitVec.ofNat 32 c := by
    rw [Int32.toBitVec_and, Int32.toBitVec_xor]
    have : (-1 : Int32).toBitVec = BitVec.allOnes 32 := by decide
    rw [this, BitVec.xor_allOnes]
    rfl
  rw [← Int32.toBitVec_inj, e1]
  constructor
  · intro h b hb
    have b12 : b < 12 := by
      rcases Nat.lt_or_ge b 12 with z | z
      · exact z
      · have := Nat.testBit_lt_two_pow (x := a) (i := b) (Nat.lt_of_lt_of_le ha (Nat.pow_le_pow_right (by decide) z))
        rw [this] at hb; cases hb
    have := congrArg (fun v : BitVec 32 => v.getLsbD b) h
    simp only [BitVec.getLsbD_and, BitVec.getLsbD_not, BitVec.getLsbD_ofNat, hb, Int32.toBitVec_zero, BitVec.getLsbD_zero] at this
    simp only [show b < 32 by omega, decide_true, Bool.true_and] at this
    cases q : c.testBit b
    · rw [q] at this; simp at this
    · rfl
  · intro h
    apply BitVec.eq_of_getLsbD_eq
    intro b hb
    simp only [BitVec.getLsbD_and, BitVec.getLsbD_not, BitVec.getLsbD_ofNat, Int32.toBitVec_zero, BitVec.getLsbD_zero]
    simp only [hb, decide_true, Bool.true_and]
    cases q : a.testBit b
    · simp
    · rw [h b q]; simp
theorem tcb_12 : ∀ {t : Tr}, twf t → tcb t < 2 ^ 12
  | .num _, _ => by simp [tcb]
  | .var b, w => by simp only [tcb]; exact Nat.pow_lt_pow_right (by decide) w
  | .mulL c a, w => by simp only [tcb]; exact tcb_12 w.2.2.2.2
  | .mulR a k, w => by simp only [tcb]; exact tcb_12 w.2
  | .add (.mulL k a) b, w => by simp only [tcb]; exact Nat.or_lt_two_pow (tcb_12 w.2.2.2.1) (tcb_12 w.2.2.2.2)
theorem tab_8 : ∀ {t : Tr}, twf t → tab t < 2 ^ 8
  | .num _, _ => by simp [tab]
  | .var b, w => by simp [tab]
  | .mulL c a, w => by simp only [tab]; exact Nat.pow_lt_pow_right (by decide) (by omega)
  | .mulR a k, w => by simp only [tab]; exact tab_8 w.2
  | .add (.mulL k a) b, w => by simp only [tab]; exact Nat.or_lt_two_pow (tab_8 w.2.2.2.1) (tab_8 w.2.2.2.2)
theorem tall_tcb {P : Nat → Prop} : ∀ {t : Tr}, tall P (fun _ => True) t → ∀ b, (tcb t).testBit b = true → P b
  | .num _, _, b, h => by simp [tcb] at h
  | .var c, p, b, h => by
    simp only [tcb, Nat.testBit_two_pow, decide_eq_true_eq] at h
    have h : c = b := h
    subst h
    exact p
  | .mulL c a, p, b, h => tall_tcb p.2 b h
  | .mulR a k, p, b, h => tall_tcb (t := a) p b h
  | .add (.mulL k a) b', p, b, h => by
    simp only [tcb, Nat.testBit_or, Bool.or_eq_true] at h
    rcases h with h | h
    · exact tall_tcb p.1 b h
    · exact tall_tcb p.2 b h
  | .add (.num _) _, _, b, h => by simp [tcb] at h
  | .add (.var _) _, _, b, h => by simp [tcb] at h
  | .add (.add _ _) _, _, b, h => by simp [tcb] at h
  | .add (.mulR _ _) _, _, b, h => by simp [tcb] at h
theorem tall_iff {P : Nat → Prop} {t : Tr} (w : twf t) : tall P (fun _ => True) t ↔ ∀ b, (tcb t).testBit b = true → P b := ⟨tall_tcb, fun h => tall_bits w h (fun _ _ => trivial)⟩
def orB (f : Nat → Nat) : Nat → Nat
  | 0 => 0
  | k + 1 => orB f k ||| f k
theorem orB_bit {f : Nat → Nat} {b : Nat} : ∀ {k : Nat}, (orB f k).testBit b = true ↔ ∃ i, i < k ∧ (f i).testBit b = true
  | 0 => by simp [orB]
  | k + 1 => by
    simp only [orB, Nat.testBit_or, Bool.or_eq_true, orB_bit (k := k)]
    constructor
    · rintro (⟨i, h1, h2⟩ | h)
      · exact ⟨i, by omega, h2⟩
      · exact ⟨k, by omega, h⟩
    · rintro ⟨i, h1, h2⟩
      by_cases c : i = k
      · subst c; exact Or.inr h2
      · exact Or.inl ⟨i, by omega, h2⟩
theorem orB_lt {f : Nat → Nat} {q : Nat} : ∀ {k : Nat}, (∀ i, i < k → f i < 2 ^ q) → orB f k < 2 ^ q
  | 0, _ => Nat.two_pow_pos q
  | k + 1, h => Nat.or_lt_two_pow (orB_lt (fun i hi => h i (by omega))) (h k (by omega))
theorem orB_zero {f : Nat → Nat} : ∀ {k : Nat}, orB f k = 0 ↔ ∀ i, i < k → f i = 0
  | 0 => by simp [orB]
  | k + 1 => by
    simp only [orB, Nat.or_eq_zero_iff, orB_zero (k := k)]
    constructor
    · intro ⟨h1, h2⟩ i hi
      by_cases c : i = k
      · subst c; exact h2
      · exact h1 i (by omega)
    · intro h
      exact ⟨fun i hi => h i (by omega), h k (by omega)⟩
/-- the columns of the first i sources -/
def cuN (ρ : St) (w : Nat → Nat) : Nat → Nat := orB fun k => (2 ^ w (tb ρ k) - 1) <<< (4 * k)
theorem cuN_bit {ρ : St} {w : Nat → Nat} {i b : Nat} (hw : ∀ k, k < i → w (tb ρ k) ≤ 4) : (cuN ρ w i).testBit b = true ↔ Pc ρ w i b := by
  unfold cuN Pc
  rw [orB_bit]
  constructor
  · rintro ⟨k, hk, h⟩
    rw [Nat.testBit_shiftLeft, Nat.testBit_two_pow_sub_one] at h
    simp only [ge_iff_le, Bool.and_eq_true, decide_eq_true_eq] at h
    have := hw k hk
    have e : b / 4 = k := by omega
    rw [e]
    exact ⟨hk, by omega⟩
  · rintro ⟨h1, h2⟩
    refine ⟨b / 4, h1, ?_⟩
    rw [Nat.testBit_shiftLeft, Nat.testBit_two_pow_sub_one]
    simp only [ge_iff_le, Bool.and_eq_true, decide_eq_true_eq]
    exact ⟨by omega, by omega⟩
theorem sh_dec : ∀ w, w < 5 → ∀ i, i < 3 → (((1 : Int32) <<< (nI w &&& 31)) - 1) <<< (nI i * 4 &&& 31) = nI ((2 ^ w - 1) <<< (4 * i)) := by decide +kernel
theorem x_upto (N : Nat) (hN : 100 < N) {σ ρ : St} {nt n ns ng ni no : Nat} {w h : Nat → Nat} {τ : Nat → Tr} (hT : IvT σ ρ nt w h) (hQ : IvQ σ ρ nt n τ ns ng ni no) {last : Nat} (hl : last < ns) : f_C_columnsUpTo N σ (nI last) = some (nI (cuN ρ w (last + 1)), σ) := by
  have ns3 := hQ.1.1
  have hs := hQ.1.2.1
  have h6 := hT.1
  have key : ∀ (d i fu : Nat), i + d = last + 1 → d < fu → f_C_columnsUpTo_4 N fu σ (nI last) (nI (cuN ρ w i)) (nI i) = some (nI (cuN ρ w (last + 1)), σ) := by
    intro d
    induction d with
    | zero =>
      intro i fu hi hfu
      obtain ⟨fu, rfl⟩ : ∃ q, fu = q + 1 := ⟨fu - 1, by omega⟩
      show f_C_columnsUpTo_4_b N (f_C_columnsUpTo_4 N fu) σ _ _ _ = _
      unfold f_C_columnsUpTo_4_b
      have : i = last + 1 := by omega
      subst this
      rw [if_pos (nI_lt (by omega) (by omega))]
    | succ d ih =>
      intro i fu hi hfu
      obtain ⟨fu, rfl⟩ : ∃ q, fu = q + 1 := ⟨fu - 1, by omega⟩
      show f_C_columnsUpTo_4_b N (f_C_columnsUpTo_4 N fu) σ _ _ _ = _
      unfold f_C_columnsUpTo_4_b
      obtain ⟨t1, t2, t3⟩ := src_t hQ (show i < ns by omega) h6
      have w4 := (hT.2.2.2.1 _ t1).2.1
      rw [if_neg (nI_nlt (by omega) (by omega)), hs, if_neg (nI_ge (by omega) (by omega)), ckb_nI (show i < 3 by omega) (by decide), nI_clamp (show i < 2 ^ 31 by omega), t3, ckb_nI (show tb ρ i < 6 by omega) (by decide), nI_clamp (show tb ρ i < 2 ^ 31 by omega), (hT.2.2.2.1 _ t1).2.2.2.1, sh_dec _ (by omega) i (by omega), nI_or, nI_1]
      exact ih (i + 1) fu (by omega) (by omega)
  exact key (last + 1) 0 N (by omega) (by omega)
theorem x_bA {N : Nat} {σ ρ : St} {n m : Nat} {τ : Nat → Tr} {x : Int32} {o : Option Tr} (hE : IvE σ ρ n m τ) (hx : RF τ n x o) : f_C_bitsAt N σ x = some (nI (os tcb o), σ) ∧ f_C_bitsAt_1 N σ x = some (nI (os tab o), σ) := by
  have h60 := hE.1
  unfold f_C_bitsAt f_C_bitsAt_1
  cases o with
  | none =>
    have hx : x = -1 := hx
    subst hx
    rw [x_has_no (Or.inl (by decide)), bd_eq, bd_eq, if_pos rfl, if_pos rfl]
    exact ⟨rfl, rfl⟩
  | some t =>
    obtain ⟨i, hi, rfl, ht⟩ := hx
    have hp := hE.2.2.2.2.2.2.1 i hi
    rw [x_has_yes hE.2.2.1 hi h60, bd_eq, bd_eq, if_neg (by decide), if_neg (by decide), ckb_nI (show i < 60 by omega) (by decide), ckb_nI (show i < 60 by omega) (by decide), nI_clamp (show i < 2 ^ 31 by omega), hp.2.2.2.2.2.2.2.1, hp.2.2.2.2.2.2.2.2.1, ht]
    exact ⟨rfl, rfl⟩

