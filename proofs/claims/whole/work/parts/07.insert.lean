/-! insert (own rows) -/
def pick4 (a b c d : Int64) (q : Nat) : Int64 := if q = 0 then a else if q = 1 then b else if q = 2 then c else d
abbrev okz (z : Int64) : Prop := (-1000000000000 : Int64) ≤ z ∧ z ≤ 1000000000000
/-- bit q of x is not set -/
abbrev bit0 (x : Int32) (q : Nat) : Prop := ((x >>> (nI q &&& 31)) &&& 1) = 0
theorem and1 (y : Int32) : (y &&& 1 = 0) ∨ (y &&& 1 = 1) := by
  rw [pk_and y (m := 1) 1 (by decide)]
  have : y.toBitVec.toNat % 2 ^ 1 = 0 ∨ y.toBitVec.toNat % 2 ^ 1 = 1 := by omega
  rcases this with h | h
  · left; rw [h]; rfl
  · right; rw [h]; rfl
theorem and1' (y : Int32) : (y &&& 1 = 1) ↔ ¬ (y &&& 1 = 0) := by
  rcases and1 y with h | h
  · rw [h]; simp
  · rw [h]; simp
theorem x_out (N : Nat) (σ : St) (z : Int64) : f_Q_isOutside N σ z = some (if okz z then 0 else 1, σ) := by
  unfold f_Q_isOutside
  simp only [cmp_lt, cmp_le]
  by_cases c1 : z < -1000000000000
  · rw [if_pos c1, if_neg (fun h => by have h1 := h.1; rw [i64_lt] at c1; rw [i64_le] at h1; omega)]
  · rw [if_neg c1]
    by_cases c2 : z ≤ 1000000000000
    · rw [if_pos c2, if_pos ⟨by simp only [i64_lt, i64_le] at *; omega, c2⟩]
    · rw [if_neg c2, if_neg (fun h => c2 h.2)]
/-- the value at q may stand: it is NULL, or within -/
abbrev gd (f : Nat → Int64) (x : Int32) (q : Nat) : Prop := bit0 x q → okz (f q)
theorem gd_step {f : Nat → Int64} {x : Int32} {c w : Nat} (h : c < w) : (∀ q, c ≤ q → q < w → gd f x q) ↔ gd f x c ∧ ∀ q, c + 1 ≤ q → q < w → gd f x q := by
  constructor
  · intro a; exact ⟨a c (Nat.le_refl _) h, fun q h1 h2 => a q (by omega) h2⟩
  · intro ⟨a, b⟩ q h1 h2
    by_cases e : q = c
    · rw [e]; exact a
    · exact b q (by omega) h2
theorem x_i58 (N : Nat) (row : Nat → Int64) (σ : St) {t w : Nat} (x : Int32) (ht : t < 6) (hw : w ≤ 4) (T : Option (Int32 × St)) (hT : (if ga σ 1 t < 8 then (f_T_addRow N row σ (nI t) x) else some (-104, σ)) = T) :
    ∀ (d c n : Nat), c + d = w → d < n → ((∀ q, c ≤ q → q < w → gd row x q) → f_Q_insert_58 N row n σ (nI t) x (nI w) (nI c) = T) ∧ (¬ (∀ q, c ≤ q → q < w → gd row x q) → f_Q_insert_58 N row n σ (nI t) x (nI w) (nI c) = some (-102, σ)) := by
  intro d
  induction d with
  | zero =>
    intro c n hc hn
    obtain ⟨n, rfl⟩ : ∃ m, n = m + 1 := ⟨n - 1, by omega⟩
    have hcw : c = w := by omega
    subst hcw
    refine ⟨fun _ => ?_, fun h => absurd (fun q h1 h2 => by omega) h⟩
    show f_Q_insert_58_b N row (f_Q_insert_58 N row n) σ (nI t) x (nI c) (nI c) = T
    unfold f_Q_insert_58_b
    rw [if_pos (nI_le (Nat.le_refl _) (by omega)), ckb_nI ht (by decide), nI_clamp (by omega), ← hT]
    split
    · cases f_T_addRow N row σ (nI t) x with
      | none => rfl
      | some q => rfl
    · rfl
  | succ d ih =>
    intro c n hc hn
    obtain ⟨n, rfl⟩ : ∃ m, n = m + 1 := ⟨n - 1, by omega⟩
    have e : f_Q_insert_58 N row (n + 1) σ (nI t) x (nI w) (nI c) = if gd row x c then f_Q_insert_58 N row n σ (nI t) x (nI w) (nI (c + 1)) else some (-102, σ) := by
      show f_Q_insert_58_b N row (f_Q_insert_58 N row n) σ (nI t) x (nI w) (nI c) = _
      unfold f_Q_insert_58_b
      rw [if_neg (nI_ge (by omega) (by omega)), nI_1]
      by_cases b : bit0 x c
      · rw [if_pos b, ckb_nI (by omega) (by decide), nI_clamp (by omega), x_out, bd_eq]
        by_cases o : okz (row c)
        · rw [if_pos o, if_pos rfl, if_pos (fun _ => o)]
        · rw [if_neg o, if_neg (by decide), if_neg (fun g => o (g b))]
      · rw [if_neg b, if_pos (fun g => absurd g b)]
    obtain ⟨i1, i2⟩ := ih (c + 1) n (by omega) (by omega)
    rw [e]
    refine ⟨fun h => ?_, fun h => ?_⟩
    · obtain ⟨g1, g2⟩ := (gd_step (by omega)).mp h
      rw [if_pos g1]; exact i1 g2
    · by_cases g1 : gd row x c
      · rw [if_pos g1]; exact i2 (fun g2 => h ((gd_step (by omega)).mpr ⟨g1, g2⟩))
      · rw [if_neg g1]
theorem pick_sel {α : Type} (F : Int64 → α) (a b c d : Int64) {q : Nat} (hq : q < 4) : (if nI q = 0 then F a else if nI q = 1 then F b else if nI q = 2 then F c else F d) = F (pick4 a b c d q) := by
  have : q = 0 ∨ q = 1 ∨ q = 2 ∨ q = 3 := by omega
  rcases this with rfl | rfl | rfl | rfl <;> rfl
theorem m_i25 (N : Nat) (ρ : St) {t w : Nat} (x2 x4 x6 x8 : Int64) (x : Int32) (ht : t < 6) (hw : w ≤ 4) (h0 : ga ρ 0 t = nI w) (T : Option (Int32 × St)) (hT : (if ga ρ 1 t = 8 then some (-104, ρ) else f_M_insert_139 N N ρ (nI t) x2 x4 x6 x8 x 0) = T) :
    ∀ (d c n : Nat) (r : Int32), c + d = w → d < n → (r = 0 ∨ r = 1) → ((r = 1 ∧ ∀ q, c ≤ q → q < w → gd (pick4 x2 x4 x6 x8) x q) → f_M_insert_25 N n ρ (nI t) x2 x4 x6 x8 x r (nI c) = T) ∧ (¬ (r = 1 ∧ ∀ q, c ≤ q → q < w → gd (pick4 x2 x4 x6 x8) x q) → f_M_insert_25 N n ρ (nI t) x2 x4 x6 x8 x r (nI c) = some (-102, ρ)) := by
  intro d
  induction d with
  | zero =>
    intro c n r hc hn hr
    obtain ⟨n, rfl⟩ : ∃ m, n = m + 1 := ⟨n - 1, by omega⟩
    have hcw : c = w := by omega
    subst hcw
    have e : f_M_insert_25 N (n + 1) ρ (nI t) x2 x4 x6 x8 x r (nI c) = if r = 0 then some (-102, ρ) else T := by
      show f_M_insert_25_b N (f_M_insert_25 N n) ρ (nI t) x2 x4 x6 x8 x r (nI c) = _
      unfold f_M_insert_25_b
      rw [ckb_nI ht (by decide), nI_clamp (by omega), h0, if_pos (nI_le (Nat.le_refl _) (by omega)), ckb_nI ht (by decide), ← hT]
    rw [e]
    refine ⟨fun h => ?_, fun h => ?_⟩
    · rw [h.1, if_neg (by decide)]
    · rcases hr with rfl | rfl
      · rw [if_pos rfl]
      · exact absurd ⟨rfl, fun q h1 h2 => by omega⟩ h
  | succ d ih =>
    intro c n r hc hn hr
    obtain ⟨n, rfl⟩ : ∃ m, n = m + 1 := ⟨n - 1, by omega⟩
    have e : f_M_insert_25 N (n + 1) ρ (nI t) x2 x4 x6 x8 x r (nI c) = f_M_insert_25 N n ρ (nI t) x2 x4 x6 x8 x (if r = 1 ∧ gd (pick4 x2 x4 x6 x8) x c then 1 else 0) (nI (c + 1)) := by
      show f_M_insert_25_b N (f_M_insert_25 N n) ρ (nI t) x2 x4 x6 x8 x r (nI c) = _
      unfold f_M_insert_25_b
      rw [ckb_nI ht (by decide), nI_clamp (by omega), h0, if_neg (nI_ge (by omega) (by omega)), pick_sel (fun z => f_M_insert_69 N (f_M_insert_25 N n) ρ (nI t) x2 x4 x6 x8 x r (nI c) z) x2 x4 x6 x8 (by omega)]
      unfold f_M_insert_69
      rw [nI_1]
      rcases hr with rfl | rfl
      · rw [if_pos rfl, if_neg (fun h => absurd h.1 (by decide))]
      · rw [if_neg (by decide)]
        by_cases b : bit0 x c
        · rw [if_neg (fun h => (and1' _).mp h b), m_within, bd_eq, ite10]
          by_cases o : okz (pick4 x2 x4 x6 x8 c)
          · rw [if_pos o, if_pos ⟨rfl, fun _ => o⟩]
          · rw [if_neg o, if_neg (fun h => o (h.2 b))]
        · rw [if_pos ((and1' _).mpr b), if_pos ⟨rfl, fun g => absurd g b⟩]
    rw [e]
    obtain ⟨i1, i2⟩ := ih (c + 1) n (if r = 1 ∧ gd (pick4 x2 x4 x6 x8) x c then 1 else 0) (by omega) (by omega) (by split <;> simp)
    refine ⟨fun h => ?_, fun h => ?_⟩
    · obtain ⟨g1, g2⟩ := (gd_step (by omega)).mp h.2
      exact i1 ⟨by rw [if_pos ⟨h.1, g1⟩], g2⟩
    · refine i2 (fun g => h ?_)
      by_cases y : r = 1 ∧ gd (pick4 x2 x4 x6 x8) x c
      · exact ⟨y.1, (gd_step (by omega)).mpr ⟨y.2, g.2⟩⟩
      · have := g.1
        rw [if_neg y] at this
        exact absurd this (by decide)
/-- M writes a row: columns c, c + 1 .. of table t, row h -/
def mwr (f : Nat → Int64) (x : Int32) (o : Nat) : Nat → Nat → St → St
  | 0, _, ρ => ρ
  | d + 1, c, ρ => mwr f x o d (c + 1) (wl (wz ρ 2 (nI (o + c)) (if bit0 x c then 0 else 1)) 0 (nI (o + c)) (f c))
theorem mwr_gi (f : Nat → Int64) (x : Int32) (o : Nat) : ∀ (d c : Nat) (ρ : St) (q : Nat), gi (mwr f x o d c ρ) q = gi ρ q := by
  intro d
  induction d with
  | zero => intro c ρ q; rfl
  | succ d ih => intro c ρ q; show gi (mwr f x o d (c + 1) _) q = _; rw [ih]; rfl
theorem mwr_ga (f : Nat → Int64) (x : Int32) (o : Nat) : ∀ (d c : Nat) (ρ : St) (q : Nat), q ≠ 2 → ga (mwr f x o d c ρ) q = ga ρ q := by
  intro d
  induction d with
  | zero => intro c ρ q _; rfl
  | succ d ih => intro c ρ q hq; show ga (mwr f x o d (c + 1) _) q = _; rw [ih _ _ _ hq, ga_wl, ga_wz, if_neg hq]
theorem mwr_gb (f : Nat → Int64) (x : Int32) (o : Nat) : ∀ (d c : Nat) (ρ : St) (q : Nat), q ≠ 0 → gb (mwr f x o d c ρ) q = gb ρ q := by
  intro d
  induction d with
  | zero => intro c ρ q _; rfl
  | succ d ih => intro c ρ q hq; show gb (mwr f x o d (c + 1) _) q = _; rw [ih _ _ _ hq, gb_wl, if_neg hq, gb_wz]
theorem mwr_e (f : Nat → Int64) (x : Int32) (o : Nat) : ∀ (d c : Nat) (ρ : St) (j : Nat), o + c + d < 2 ^ 31 → ga (mwr f x o d c ρ) 2 j = if o + c ≤ j ∧ j < o + c + d then (if bit0 x (j - o) then 0 else 1) else ga ρ 2 j := by
  intro d
  induction d with
  | zero => intro c ρ j _; rw [if_neg (by omega)]; rfl
  | succ d ih =>
    intro c ρ j hb
    show ga (mwr f x o d (c + 1) _) 2 j = _
    rw [ih _ _ _ (by omega), ga_wl, ga_wz, if_pos rfl, nI_clamp (by omega), upd_at]
    by_cases a : j = o + c
    · subst a
      rw [if_neg (by omega), if_pos rfl, if_pos (show o + c ≤ o + c ∧ o + c < o + c + (d + 1) by omega), nar_b (by by_cases z : bit0 x c <;> simp [z]), Nat.add_sub_cancel_left]
    · rw [if_neg a]
      by_cases b : o + (c + 1) ≤ j ∧ j < o + (c + 1) + d
      · rw [if_pos b, if_pos (show o + c ≤ j ∧ j < o + c + (d + 1) by omega)]
      · rw [if_neg b, if_neg (show ¬ (o + c ≤ j ∧ j < o + c + (d + 1)) by omega)]
theorem mwr_c (f : Nat → Int64) (x : Int32) (o : Nat) : ∀ (d c : Nat) (ρ : St) (j : Nat), o + c + d < 2 ^ 31 → gb (mwr f x o d c ρ) 0 j = if o + c ≤ j ∧ j < o + c + d then f (j - o) else gb ρ 0 j := by
  intro d
  induction d with
  | zero => intro c ρ j _; rw [if_neg (by omega)]; rfl
  | succ d ih =>
    intro c ρ j hb
    show gb (mwr f x o d (c + 1) _) 0 j = _
    rw [ih _ _ _ (by omega), gb_wl, if_pos rfl, nI_clamp (by omega), updL_at]
    by_cases a : j = o + c
    · subst a
      rw [if_neg (by omega), if_pos rfl, if_pos (by omega), Nat.add_sub_cancel_left]
    · rw [if_neg a, gb_wz]
      by_cases b : o + (c + 1) ≤ j ∧ j < o + (c + 1) + d
      · rw [if_pos b, if_pos (by omega)]
      · rw [if_neg b, if_neg (by omega)]
theorem m_i139 (N : Nat) {t w h : Nat} (x2 x4 x6 x8 : Int64) (x : Int32) (ht : t < 6) (hw : w ≤ 4) (hh : h < 8) :
    ∀ (d c n : Nat) (ρ : St), c + d = w → d < n → ga ρ 0 t = nI w → ga ρ 1 t = nI h → f_M_insert_139 N n ρ (nI t) x2 x4 x6 x8 x (nI c) = some (nI (h + 1), wa (mwr (pick4 x2 x4 x6 x8) x (32 * t + 4 * h) d c ρ) 1 (nI t) (nI (h + 1))) := by
  intro d
  induction d with
  | zero =>
    intro c n ρ hc hn h0 h1
    obtain ⟨n, rfl⟩ : ∃ m, n = m + 1 := ⟨n - 1, by omega⟩
    have hcw : c = w := by omega
    subst hcw
    show f_M_insert_139_b N (f_M_insert_139 N n) ρ (nI t) x2 x4 x6 x8 x (nI c) = _
    unfold f_M_insert_139_b
    rw [ckb_nI ht (by decide), nI_clamp (by omega), h0, if_pos (nI_le (Nat.le_refl _) (by omega)), ckb_nI ht (by decide), ckb_nI ht (by decide), h1, nI_1, nm_eq, ckb_nI ht (by decide)]
    simp only [ga_wa, if_true, nI_clamp (show t < 2 ^ 31 by omega), upd_at]
    rfl
  | succ d ih =>
    intro c n ρ hc hn h0 h1
    obtain ⟨n, rfl⟩ : ∃ m, n = m + 1 := ⟨n - 1, by omega⟩
    show f_M_insert_139_b N (f_M_insert_139 N n) ρ (nI t) x2 x4 x6 x8 x (nI c) = _
    unfold f_M_insert_139_b
    have eo : (32 : Int32) * nI t + 4 * nI h + nI c = nI (32 * t + 4 * h + c) := by
      rw [show (32 : Int32) = nI 32 from rfl, show (4 : Int32) = nI 4 from rfl, pk_mul, pk_mul, nI_add, nI_add]
    have key : ∀ b : Int32, (b = 0 ∨ b = 1) → b = (if bit0 x c then 0 else 1) → f_M_insert_190 N (f_M_insert_139 N n) ρ (nI t) x2 x4 x6 x8 x (nI c) (nI (32 * t + 4 * h + c)) b (nI (32 * t + 4 * h + c)) = some (nI (h + 1), wa (mwr (pick4 x2 x4 x6 x8) x (32 * t + 4 * h) (d + 1) c ρ) 1 (nI t) (nI (h + 1))) := by
      intro b hb eb
      unfold f_M_insert_190
      rw [ckb_nI (by omega) (by decide), nm_eq]
      simp only [ckb_nI (show 32 * t + 4 * h + c < 192 by omega) (show 192 < 2 ^ 31 by decide), nm_eq, nI_1]
      rw [pick_sel (fun z => f_M_insert_139 N n (wl (wz ρ 2 (nI (32 * t + 4 * h + c)) b) 0 (nI (32 * t + 4 * h + c)) z) (nI t) x2 x4 x6 x8 x (nI (c + 1))) x2 x4 x6 x8 (by omega), eb]
      exact ih (c + 1) n _ (by omega) (by omega) h0 h1
    rw [ckb_nI ht (by decide), nI_clamp (by omega), h0, if_neg (nI_ge (by omega) (by omega)), ckb_nI ht (by decide), h1, eo]
    by_cases b : bit0 x c
    · rw [if_neg (fun q => (and1' _).mp q b)]
      exact key 0 (Or.inl rfl) (by rw [if_pos b])
    · rw [if_pos ((and1' _).mpr b)]
      exact key 1 (Or.inr rfl) (by rw [if_neg b])

