/-! the tables on both sides: table, insert keep them alike (own rows) -/
def IvC (σ ρ : St) (t r c : Nat) : Prop :=
  (bit0 (ga σ 2 (8 * t + r)) c ∧ ga ρ 2 (32 * t + 4 * r + c) = 0 ∧ gb σ 0 (32 * t + 4 * r + c) = gb ρ 0 (32 * t + 4 * r + c) ∧ okz (gb ρ 0 (32 * t + 4 * r + c))) ∨
  (¬ bit0 (ga σ 2 (8 * t + r)) c ∧ ga ρ 2 (32 * t + 4 * r + c) = 1)
def IvT (σ ρ : St) (nt : Nat) (w h : Nat → Nat) : Prop := nt ≤ 6 ∧ gi σ 0 = nI nt ∧ gi ρ 0 = nI nt ∧
  (∀ t, t < nt → 1 ≤ w t ∧ w t ≤ 4 ∧ h t ≤ 8 ∧ ga σ 0 t = nI (w t) ∧ ga ρ 0 t = nI (w t) ∧ ga ρ 1 t = nI (h t)) ∧
  (∀ t, t < 6 → ga σ 1 t = nI (h t)) ∧ (∀ t, nt ≤ t → h t = 0) ∧ (∀ t r c, t < nt → r < h t → c < w t → IvC σ ρ t r c)
/-- X's state behind a row more -/
def xin (σ : St) (row : Nat → Int64) (x : Int32) (t h : Nat) : St := wa (sb (wa σ 2 (nI (8 * t + h)) x) 0 (va_cpy row (gb σ 0) 0 (32 * t + 4 * h) 4)) 1 (nI t) (nI (h + 1))
def min_ (ρ : St) (f : Nat → Int64) (x : Int32) (t h w : Nat) : St := wa (mwr f x (32 * t + 4 * h) w 0 ρ) 1 (nI t) (nI (h + 1))
theorem x_addRow (N : Nat) (row : Nat → Int64) (σ : St) (x : Int32) {t h : Nat} (ht : t < 6) (hh : h < 8) (h1 : ga σ 1 t = nI h) : f_T_addRow N row σ (nI t) x = some (nI (h + 1), xin σ row x t h) := by
  unfold f_T_addRow
  have e8 : nI t * (8 : Int32) + nI h = nI (8 * t + h) := by
    rw [show (8 : Int32) = nI 8 from rfl, pk_mul, nI_add, Nat.mul_comm]
  have e4 : nI (8 * t + h) * (4 : Int32) = nI (32 * t + 4 * h) := by
    rw [show (4 : Int32) = nI 4 from rfl, pk_mul]
    congr 1
    omega
  rw [ckb_nI ht (by decide), nI_clamp (by omega), h1, e8, ckb_nI (by omega) (by decide), nm_eq, e4]
  have ec : ∀ k : Option (Int32 × St), ckc (nI (32 * t + 4 * h)) 4 192 k = k := by
    intro k
    unfold ckc
    rw [if_neg]
    rintro (q | q)
    · exact nI_pos (by omega) q
    · rw [nI_clamp (by omega)] at q
      omega
  rw [ec, nm_eq, ckb_nI ht (by decide), ckb_nI ht (by decide), nm_eq, ckb_nI ht (by decide), nI_clamp (show 32 * t + 4 * h < 2 ^ 31 by omega)]
  have er : ga (sb (wa σ 2 (nI (8 * t + h)) x) 0 (va_cpy row (gb (wa σ 2 (nI (8 * t + h)) x) 0) 0 (32 * t + 4 * h) 4)) 1 t = nI h := h1
  rw [er, nI_1]
  have e2 : ga (wa (sb (wa σ 2 (nI (8 * t + h)) x) 0 (va_cpy row (gb (wa σ 2 (nI (8 * t + h)) x) 0) 0 (32 * t + 4 * h) 4)) 1 (nI t) (nI (h + 1))) 1 t = nI (h + 1) := by
    rw [ga_wa, if_pos rfl, nI_clamp (by omega), upd_at, if_pos rfl]
  rw [e2]
  rfl
theorem s_insert (N : Nat) {σ ρ : St} {nt : Nat} {w h : Nat → Nat} (hN : 5 < N) (hT : IvT σ ρ nt w h) (x1 : Int32) (x2 x4 x6 x8 : Int64) (x : Int32) :
    (∃ r, f_Q_insert N σ x1 x2 x4 x6 x8 x = some (r, σ) ∧ f_M_insert N ρ x1 x2 x4 x6 x8 x = some (r, ρ)) ∨
    (∃ t, t < nt ∧ h t < 8 ∧ (∀ q, q < w t → gd (pick4 x2 x4 x6 x8) x q) ∧ f_Q_insert N σ x1 x2 x4 x6 x8 x = some (nI (h t + 1), xin σ (pick4 x2 x4 x6 x8) x t (h t)) ∧ f_M_insert N ρ x1 x2 x4 x6 x8 x = some (nI (h t + 1), min_ ρ (pick4 x2 x4 x6 x8) x t (h t) (w t))) := by
  obtain ⟨hnt, e1, e2, hw, hr, hz, hc⟩ := hT
  have em := m_cnt N ρ (n := nt) (by omega) x1
  rcases pk_ix x1 (n := nt) (by omega) with c | c | ⟨t, ht, rfl⟩
  · refine Or.inl ⟨-101, ?_, ?_⟩
    · unfold f_Q_insert; rw [x_thas_no (Or.inl c), bd_eq, if_pos rfl]
    · unfold f_M_insert; rw [e2, em, bd_eq, ite10, if_neg (fun q => Int32.not_lt.mpr q.1 c)]
  · refine Or.inl ⟨-101, ?_, ?_⟩
    · unfold f_Q_insert; rw [x_thas_no (Or.inr (by rw [e1]; exact c)), bd_eq, if_pos rfl]
    · unfold f_M_insert; rw [e2, em, bd_eq, ite10, if_neg (fun q => Int32.not_lt.mpr c q.2)]
  · obtain ⟨w1, w4, h8, c1, c2, c3⟩ := hw t ht
    have rt := hr t (by omega)
    have eX : ∃ row : Nat → Int64, (∀ q, q < 4 → row q = pick4 x2 x4 x6 x8 q) ∧ f_Q_insert N σ (nI t) x2 x4 x6 x8 x = f_Q_insert_58 N row N σ (nI t) x (nI (w t)) (nI 0) := by
      refine ⟨vp_updL (vp_updL (vp_updL (vp_updL (fun _ => (0 : Int64)) ((0 : Int32)).toNatClampNeg x2) ((1 : Int32)).toNatClampNeg x4) ((2 : Int32)).toNatClampNeg x6) ((3 : Int32)).toNatClampNeg x8, ?_, ?_⟩
      rotate_left
      · unfold f_Q_insert
        rw [x_thas_yes e1 ht (by omega), bd_eq, if_neg (by decide), nm_eq, ckb_in (i := (0 : Int32)) (vp_in_nI (n := 0) (by decide) (by decide)), nm_eq, ckb_in (i := (1 : Int32)) (vp_in_nI (n := 1) (by decide) (by decide)), nm_eq, ckb_in (i := (2 : Int32)) (vp_in_nI (n := 2) (by decide) (by decide)), nm_eq, ckb_in (i := (3 : Int32)) (vp_in_nI (n := 3) (by decide) (by decide)), nm_eq, ckb_nI (by omega) (by decide), nI_clamp (show t < 2 ^ 31 by omega), c1, if_neg (show ¬ (4 : Int32) < nI (w t) from nI_nlt (a := 4) (b := w t) (by omega) (by decide))]
        rfl
      · intro q hq
        have : q = 0 ∨ q = 1 ∨ q = 2 ∨ q = 3 := by omega
        rcases this with rfl | rfl | rfl | rfl <;> rfl
    obtain ⟨row, hrow, eX⟩ := eX
    have eM : f_M_insert N ρ (nI t) x2 x4 x6 x8 x = f_M_insert_25 N N ρ (nI t) x2 x4 x6 x8 x 1 (nI 0) := by
      unfold f_M_insert
      rw [e2, em, bd_eq, ite10, if_pos ⟨nI_pos' (by omega), nI_lt ht (by omega)⟩]
      rfl
    have eg : (∀ q, 0 ≤ q → q < w t → gd row x q) ↔ (∀ q, q < w t → gd (pick4 x2 x4 x6 x8) x q) := by
      constructor
      · intro a q hq; have := a q (Nat.zero_le _) hq; rw [gd, hrow q (by omega)] at this; exact this
      · intro a q _ hq; rw [gd, hrow q (by omega)]; exact a q hq
    obtain ⟨p1, p2⟩ := x_i58 N row σ x (t := t) (w := w t) (by omega) w4 _ rfl (w t) 0 N (by omega) (by omega)
    obtain ⟨q1, q2⟩ := m_i25 N ρ x2 x4 x6 x8 x (t := t) (w := w t) (by omega) w4 c2 _ rfl (w t) 0 N 1 (by omega) (by omega) (Or.inr rfl)
    rw [eX, eM]
    by_cases g : ∀ q, q < w t → gd (pick4 x2 x4 x6 x8) x q
    · rw [p1 (eg.mpr g), q1 ⟨rfl, fun q _ hq => g q hq⟩, rt, c3]
      by_cases hf : h t < 8
      · refine Or.inr ⟨t, ht, hf, g, ?_, ?_⟩
        · rw [if_pos (show nI (h t) < (8 : Int32) from nI_lt (a := h t) (b := 8) hf (by decide)), x_addRow N row σ x (by omega) hf rt]
          have : xin σ row x t (h t) = xin σ (pick4 x2 x4 x6 x8) x t (h t) := by
            unfold xin
            have ef : va_cpy row (gb σ 0) 0 (32 * t + 4 * h t) 4 = va_cpy (pick4 x2 x4 x6 x8) (gb σ 0) 0 (32 * t + 4 * h t) 4 := by
              funext k
              unfold va_cpy
              split
              · rename_i hk; rw [hrow _ (by omega)]
              · rfl
            rw [ef]
          rw [this]
        · rw [if_neg (fun q => by rw [show (8 : Int32) = nI 8 from rfl, nI_eq (by omega) (by decide)] at q; omega)]
          exact m_i139 N x2 x4 x6 x8 x (by omega) w4 hf (w t) 0 N ρ (by omega) (by omega) c2 c3
      · have h8' : h t = 8 := by omega
        rw [h8', if_neg (by decide), if_pos (show nI 8 = (8 : Int32) from rfl)]
        exact Or.inl ⟨_, rfl, rfl⟩
    · rw [p2 (fun q => g (eg.mp q)), q2 (fun q => g (fun j hj => q.2 j (Nat.zero_le _) hj))]
      exact Or.inl ⟨_, rfl, rfl⟩

