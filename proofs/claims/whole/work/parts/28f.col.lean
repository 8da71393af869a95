/-! columns on both sides, where the sources stand (own rows) -/
def tb (ρ : St) (k : Nat) : Nat := (ga ρ 11 k).toNatClampNeg
def rwn (ρ : St) (k : Nat) : Nat := (ga ρ 19 k).toNatClampNeg
def cix (ρ : St) (b : Nat) : Nat := 32 * tb ρ (b / 4) + 4 * rwn ρ (b / 4) + b % 4
def colv (ρ : St) (b : Nat) : Option Int64 := if ga ρ 19 (b / 4) < 0 then none else if ga ρ 2 (cix ρ b) = 0 then some (gb ρ 0 (cix ρ b)) else none
/-- the first lv sources stand at rows, alike on both sides -/
def Rw (σ ρ : St) (h : Nat → Nat) (lv : Nat) : Prop := ∀ k, k < lv → ga σ 23 k = ga ρ 19 k ∧ (ga ρ 19 k = -1 ∨ ∃ r, r < h (tb ρ k) ∧ ga ρ 19 k = nI r)
/-- a column that may be looked at -/
def Pc (ρ : St) (w : Nat → Nat) (lv b : Nat) : Prop := b / 4 < lv ∧ b % 4 < w (tb ρ (b / 4))
theorem src_t {σ ρ : St} {nt n k ns ng ni no : Nat} {τ : Nat → Tr} (hQ : IvQ σ ρ nt n τ ns ng ni no) (hk : k < ns) (h6 : nt ≤ 6) : tb ρ k < nt ∧ ga ρ 11 k = nI (tb ρ k) ∧ ga σ 13 k = nI (tb ρ k) := by
  obtain ⟨t, hw, h1, h2, h3, h4, h5, -⟩ := hQ.1.2.2.2 k hk
  have : tb ρ k = t := by unfold tb; rw [h5, nI_clamp (by omega)]
  rw [this]
  exact ⟨h1, h5, h4⟩
theorem b12 : ∀ b, b < 12 → nI b / 4 = nI (b / 4) ∧ nI b - nI b / 4 * 4 = nI (b % 4) := by decide +kernel
theorem x_col (N : Nat) {σ ρ : St} {nt n ns ng ni no lv b : Nat} {w h : Nat → Nat} {τ : Nat → Tr} (hT : IvT σ ρ nt w h) (hQ : IvQ σ ρ nt n τ ns ng ni no) (hR : Rw σ ρ h lv) (hlv : lv ≤ ns) (hb : b < 12) (hP : Pc ρ w lv b) (l : Nat → Int64) :
    ∃ l', f_V_lookUp N (wL σ l) (nI b) = some (vc (.ok (colv ρ b)), wL σ l') ∧ (∀ v, colv ρ b = some v → l' 0 = v) ∧ (colv ρ b = none → l' = l) := by
  obtain ⟨p1, p2⟩ := hP
  have h6 := hT.1
  obtain ⟨t1, t2, t3⟩ := src_t hQ (show b / 4 < ns by omega) h6
  obtain ⟨a1, a2⟩ := hR (b / 4) p1
  unfold f_V_lookUp
  rw [(b12 b hb).2, (b12 b hb).1, ckb_nI (show b / 4 < 3 by omega) (by decide), nI_clamp (show b / 4 < 2 ^ 31 by omega), ckb_nI (show b / 4 < 3 by omega) (by decide)]
  rw [show ga (wL σ l) 23 (b / 4) = ga ρ 19 (b / 4) from a1, show ga (wL σ l) 13 (b / 4) = nI (tb ρ (b / 4)) from t3]
  unfold colv
  rcases a2 with a2 | ⟨r, hr, a2⟩
  · rw [if_pos a2, if_pos (show ga ρ 19 (b / 4) < 0 by rw [a2]; decide)]
    exact ⟨l, rfl, fun v q => (by cases q), fun _ => rfl⟩
  · have hh := (hT.2.2.2.1 _ t1).2.2.1
    have w4 := (hT.2.2.2.1 _ t1).2.1
    have rw' : rwn ρ (b / 4) = r := by unfold rwn; rw [a2, nI_clamp (by omega)]
    rw [a2, if_neg (show ¬ nI r = -1 from nI_ne_m1 (by omega)), if_neg (show ¬ nI r < 0 from nI_pos (by omega))]
    have e8 : nI (tb ρ (b / 4)) * 8 + nI r = nI (8 * tb ρ (b / 4) + r) := by rw [show (8 : Int32) = nI 8 from rfl, pk_mul, nI_add, Nat.mul_comm]
    have e4 : nI (8 * tb ρ (b / 4) + r) * 4 + nI (b % 4) = nI (cix ρ b) := by
      rw [show (4 : Int32) = nI 4 from rfl, pk_mul, nI_add]
      unfold cix
      rw [rw']
      congr 1
      omega
    have c192 : cix ρ b < 192 := by unfold cix; rw [rw']; omega
    rw [e8, e4, ckb_nI (show 8 * tb ρ (b / 4) + r < 48 by omega) (by decide), nI_clamp (show 8 * tb ρ (b / 4) + r < 2 ^ 31 by omega), ckb_nI c192 (by decide), nI_clamp (show cix ρ b < 2 ^ 31 by omega)]
    have ic := hT.2.2.2.2.2.2 (tb ρ (b / 4)) r (b % 4) t1 hr p2
    unfold IvC at ic
    have ei : 32 * tb ρ (b / 4) + 4 * r + b % 4 = cix ρ b := by unfold cix; rw [rw']
    rw [ei] at ic
    rcases ic with ⟨i1, i2, i3, i4⟩ | ⟨i1, i2⟩
    · rw [if_pos (show (ga (wL σ l) 2 (8 * tb ρ (b / 4) + r) >>> (nI (b % 4) &&& 31)) &&& 1 = 0 from i1), if_pos i2, nm_eq, wL_sl]
      refine ⟨_, rfl, fun v q => ?_, fun q => (by cases q)⟩
      cases q
      rw [updL_at, if_pos rfl]
      exact i3
    · rw [if_neg (show ¬ (ga (wL σ l) 2 (8 * tb ρ (b / 4) + r) >>> (nI (b % 4) &&& 31)) &&& 1 = 0 from i1), if_neg (show ¬ ga ρ 2 (cix ρ b) = 0 by rw [i2]; decide)]
      exact ⟨l, rfl, fun v q => (by cases q), fun _ => rfl⟩
theorem b_col {σ ρ : St} {nt n ns ng ni no lv b : Nat} {w h : Nat → Nat} {τ : Nat → Tr} (hT : IvT σ ρ nt w h) (hQ : IvQ σ ρ nt n τ ns ng ni no) (hR : Rw σ ρ h lv) (hlv : lv ≤ ns) (hP : Pc ρ w lv b) : ∀ z, colv ρ b = some z → okF z := by
  obtain ⟨p1, p2⟩ := hP
  have h6 := hT.1
  obtain ⟨t1, t2, t3⟩ := src_t hQ (show b / 4 < ns by omega) h6
  obtain ⟨a1, a2⟩ := hR (b / 4) p1
  intro z
  unfold colv
  rcases a2 with a2 | ⟨r, hr, a2⟩
  · rw [if_pos (show ga ρ 19 (b / 4) < 0 by rw [a2]; decide)]
    intro q
    cases q
  · have hh := (hT.2.2.2.1 _ t1).2.2.1
    have rw' : rwn ρ (b / 4) = r := by unfold rwn; rw [a2, nI_clamp (by omega)]
    rw [a2, if_neg (show ¬ nI r < 0 from nI_pos (by omega))]
    have ic := hT.2.2.2.2.2.2 (tb ρ (b / 4)) r (b % 4) t1 hr p2
    unfold IvC at ic
    have ei : 32 * tb ρ (b / 4) + 4 * r + b % 4 = cix ρ b := by unfold cix; rw [rw']
    rw [ei] at ic
    rcases ic with ⟨i1, i2, i3, i4⟩ | ⟨i1, i2⟩
    · rw [if_pos i2]
      intro q
      cases q
      exact okz_F i4
    · rw [if_neg (show ¬ ga ρ 2 (cix ρ b) = 0 by rw [i2]; decide)]
      intro q
      cases q
theorem m_col (N : Nat) {σ ρ : St} {nt n m ns ng ni no lv b e : Nat} {w h : Nat → Nat} {τ : Nat → Tr} (hT : IvT σ ρ nt w h) (hE : IvE σ ρ n m τ) (hQ : IvQ σ ρ nt n τ ns ng ni no) (hR : Rw σ ρ h lv) (hlv : lv ≤ ns) (hP : Pc ρ w lv b) (he : e < n) (ht : τ e = .var b) {p : Nat} (hp : p < 64) (htp : gi ρ 20 = nI p) :
    ∃ x fl, f_M_giveColumn N ρ (nI e) = some ((), gvs ρ p x fl) ∧ ((colv ρ b = none ∧ fl = 1) ∨ (colv ρ b = some x ∧ fl = 0)) := by
  obtain ⟨p1, p2⟩ := hP
  have h6 := hT.1
  have h60 := hE.1
  have ns3 := hQ.1.1
  obtain ⟨-, x2, x3, -⟩ := hE.2.2.2.2.2.2.1 e he
  rw [ht] at x2 x3
  obtain ⟨y1, y2, y3, y4⟩ := x2
  have b12' : b < 12 := x3
  obtain ⟨t1, t2, t3⟩ := src_t hQ (show b / 4 < ns by omega) h6
  obtain ⟨a1, a2⟩ := hR (b / 4) p1
  unfold f_M_giveColumn f_M_giveColumn_51 f_M_giveColumn_56 f_M_giveColumn_74
  simp only [ckb_nI (show e < 60 by omega) (show 60 < 2 ^ 31 by decide), nI_clamp (show e < 2 ^ 31 by omega), y3, y4, ckb_nI (show b / 4 < 3 by omega) (show 3 < 2 ^ 31 by decide), nI_clamp (show b / 4 < 2 ^ 31 by omega), t2, m_give hp htp, bd_eq, if_true, show ¬ (1 : Int32) = 0 by decide, if_false]
  unfold colv
  rcases a2 with a2 | ⟨r, hr, a2⟩
  · rw [if_pos (show ga ρ 19 (b / 4) < 0 by rw [a2]; decide), if_pos (show ga ρ 19 (b / 4) < 0 by rw [a2]; decide)]
    exact ⟨_, _, rfl, Or.inl ⟨rfl, rfl⟩⟩
  · have hh := (hT.2.2.2.1 _ t1).2.2.1
    have w4 := (hT.2.2.2.1 _ t1).2.1
    have rw' : rwn ρ (b / 4) = r := by unfold rwn; rw [a2, nI_clamp (by omega)]
    have ei : (32 : Int32) * nI (tb ρ (b / 4)) + 4 * nI r + nI (b % 4) = nI (cix ρ b) := by
      rw [show (32 : Int32) = nI 32 from rfl, show (4 : Int32) = nI 4 from rfl, pk_mul, pk_mul, nI_add, nI_add]
      unfold cix
      rw [rw']
    have c192 : cix ρ b < 192 := by unfold cix; rw [rw']; omega
    rw [a2, if_neg (show ¬ nI r < 0 from nI_pos (by omega)), if_neg (show ¬ nI r < 0 from nI_pos (by omega)), ei, ckb_nI c192 (by decide), nI_clamp (show cix ρ b < 2 ^ 31 by omega)]
    have ic := hT.2.2.2.2.2.2 (tb ρ (b / 4)) r (b % 4) t1 hr p2
    unfold IvC at ic
    have ei' : 32 * tb ρ (b / 4) + 4 * r + b % 4 = cix ρ b := by unfold cix; rw [rw']
    rw [ei'] at ic
    rcases ic with ⟨i1, i2, i3, i4⟩ | ⟨i1, i2⟩
    · rw [if_pos i2, if_pos i2, ckb_nI c192 (by decide)]
      exact ⟨_, _, rfl, Or.inr ⟨rfl, rfl⟩⟩
    · rw [if_neg (show ¬ ga ρ 2 (cix ρ b) = 0 by rw [i2]; decide), if_neg (show ¬ ga ρ 2 (cix ρ b) = 0 by rw [i2]; decide)]
      exact ⟨_, _, rfl, Or.inl ⟨rfl, rfl⟩⟩

