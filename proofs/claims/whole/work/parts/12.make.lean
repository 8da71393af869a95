/-! M puts an expression together (own rows) -/
theorem sa_sa {σ : St} {r : Nat} {f g : Nat → Int32} : sa (sa σ r f) r g = sa σ r g := by
  unfold sa
  congr 3
  funext q
  unfold va_up
  by_cases c : q = r <;> simp [c]
theorem sa_self {σ : St} {r : Nat} : sa σ r (ga σ r) = σ := by
  unfold sa ga
  have : va_up σ.2.2.1 r (σ.2.2.1 r) = σ.2.2.1 := by
    funext q
    unfold va_up
    by_cases c : q = r <;> simp [c]
  rw [this]
theorem wa_wa {σ : St} {r : Nat} {i x y : Int32} : wa (wa σ r i x) r i y = wa σ r i y := by
  unfold wa
  rw [sa_sa, ga_sa, if_pos rfl]
  congr 1
  funext j
  rw [upd_at, upd_at, upd_at]
  by_cases c : j = i.toNatClampNeg <;> simp [c]
theorem wa_self {σ : St} {r : Nat} {i x : Int32} (h : ga σ r i.toNatClampNeg = x) : wa σ r i x = σ := by
  unfold wa
  have : upd (ga σ r) i.toNatClampNeg x = ga σ r := by
    funext j
    rw [upd_at]
    by_cases c : j = i.toNatClampNeg
    · rw [if_pos c, c, h]
    · rw [if_neg c]
  rw [this, sa_self]
theorem m_two (N : Nat) (ρ : St) (x : Int32) : f_M_isTwo N ρ x = some (if x ≤ 10 then 1 else 0, ρ) := by
  unfold f_M_isTwo
  by_cases c : (11 : Int32) ≤ x
  · rw [if_pos c, if_neg (fun h => by simp only [i32_le] at *; have z0 : (11 : Int32).toInt = 11 := by decide
                                      have z1 : (10 : Int32).toInt = 10 := by decide
                                      omega)]
  · rw [if_neg c, if_pos (by simp only [i32_le] at *; have z0 : (11 : Int32).toInt = 11 := by decide
                             have z1 : (10 : Int32).toInt = 10 := by decide
                             omega)]
/-- x and y look alike to M -/
def Qm (ρ : St) (x y : Nat) : Prop := ga ρ 3 x = ga ρ 3 y ∧ ga ρ 6 x = ga ρ 6 y ∧
  (if ga ρ 3 x = 20 then (ga ρ 6 x = 0 → gb ρ 1 x = gb ρ 1 y) else if ga ρ 3 x = 21 then ga ρ 4 x = ga ρ 4 y ∧ ga ρ 5 x = ga ρ 5 y
    else ga ρ 9 (ga ρ 4 x).toNatClampNeg = ga ρ 9 (ga ρ 4 y).toNatClampNeg ∧ (ga ρ 3 x ≤ 10 → ga ρ 9 (ga ρ 5 x).toNatClampNeg = ga ρ 9 (ga ρ 5 y).toNatClampNeg))
/-- parts of z can be looked at -/
def Okm (ρ : St) (n z : Nat) : Prop := ¬ ga ρ 3 z = 20 → ¬ ga ρ 3 z = 21 → (∃ i, i < n ∧ ga ρ 4 z = nI i) ∧ (ga ρ 3 z ≤ 10 → ∃ i, i < n ∧ ga ρ 5 z = nI i)
theorem m_isLike (N : Nat) {ρ : St} {n x y : Nat} (hn : n ≤ 60) (hx : x < 60) (hy : y < 60) (ox : Okm ρ n x) (oy : Okm ρ n y) : ∃ r, f_M_isLike N ρ (nI x) (nI y) = some (r, ρ) ∧ (¬ r = 0 ↔ Qm ρ x y) := by
  unfold f_M_isLike
  simp only [ckb_nI hx (show 60 < 2 ^ 31 by decide), ckb_nI hy (show 60 < 2 ^ 31 by decide), nI_clamp (show x < 2 ^ 31 by omega), nI_clamp (show y < 2 ^ 31 by omega), cmp_eq, m_two, bd_eq]
  unfold Qm
  by_cases c1 : ga ρ 3 x = ga ρ 3 y
  · rw [if_pos c1]
    by_cases c2 : ga ρ 6 x = ga ρ 6 y
    · rw [if_pos c2]
      by_cases c3 : ga ρ 3 x = 20
      · rw [if_pos c3]
        by_cases c4 : ga ρ 6 x = 0
        · rw [if_pos c4]
          by_cases c5 : gb ρ 1 x = gb ρ 1 y
          · rw [if_pos c5]; refine ⟨1, rfl, ?_⟩; simp only [if_pos c3]; exact ⟨fun _ => ⟨c1, c2, fun _ => c5⟩, fun _ => by decide⟩
          · rw [if_neg c5]; refine ⟨0, rfl, ?_⟩; simp only [if_pos c3]; exact ⟨fun h => absurd trivial h, fun h => absurd (h.2.2 c4) c5⟩
        · rw [if_neg c4]; refine ⟨1, rfl, ?_⟩; simp only [if_pos c3]; exact ⟨fun _ => ⟨c1, c2, fun h => absurd h c4⟩, fun _ => by decide⟩
      · rw [if_neg c3]
        by_cases c4 : ga ρ 3 x = 21
        · rw [if_pos c4]
          simp only [if_neg c3, if_pos c4]
          by_cases c5 : ga ρ 4 x = ga ρ 4 y
          · rw [if_pos c5]
            by_cases c6 : ga ρ 5 x = ga ρ 5 y
            · rw [if_pos c6]; exact ⟨1, rfl, fun _ => ⟨c1, c2, c5, c6⟩, fun _ => by decide⟩
            · rw [if_neg c6]; exact ⟨0, rfl, fun h => absurd rfl h, fun h => absurd h.2.2.2 c6⟩
          · rw [if_neg c5]; exact ⟨0, rfl, fun h => absurd rfl h, fun h => absurd h.2.2.1 c5⟩
        · rw [if_neg c4]
          simp only [if_neg c3, if_neg c4]
          obtain ⟨⟨i, hi, ei⟩, fi⟩ := ox c3 c4
          obtain ⟨⟨j, hj, ej⟩, fj⟩ := oy (by rw [← c1]; exact c3) (by rw [← c1]; exact c4)
          rw [ei, ej, ckb_nI (show i < 60 by omega) (by decide), ckb_nI (show j < 60 by omega) (by decide)]
          by_cases c5 : ga ρ 9 (nI i).toNatClampNeg = ga ρ 9 (nI j).toNatClampNeg
          · rw [if_pos c5]
            by_cases c6 : ga ρ 3 x ≤ 10
            · rw [if_pos c6, if_neg (by decide)]
              obtain ⟨i2, hi2, ei2⟩ := fi c6
              obtain ⟨j2, hj2, ej2⟩ := fj (by rw [← c1]; exact c6)
              rw [ei2, ej2, ckb_nI (show i2 < 60 by omega) (by decide), ckb_nI (show j2 < 60 by omega) (by decide)]
              by_cases c7 : ga ρ 9 (nI i2).toNatClampNeg = ga ρ 9 (nI j2).toNatClampNeg
              · rw [if_pos c7]; exact ⟨1, rfl, fun _ => ⟨c1, c2, c5, fun _ => c7⟩, fun _ => by decide⟩
              · rw [if_neg c7]; exact ⟨0, rfl, fun h => absurd rfl h, fun h => absurd (h.2.2.2 c6) c7⟩
            · rw [if_neg c6, if_pos rfl]; exact ⟨1, rfl, fun _ => ⟨c1, c2, c5, fun h => absurd h c6⟩, fun _ => by decide⟩
          · rw [if_neg c5]; exact ⟨0, rfl, fun h => absurd rfl h, fun h => absurd h.2.2.1 c5⟩
    · rw [if_neg c2]; exact ⟨0, rfl, fun h => absurd rfl h, fun h => absurd h.2.1 c2⟩
  · rw [if_neg c1]; exact ⟨0, rfl, fun h => absurd rfl h, fun h => absurd h.1 c1⟩
theorem lk_ne {ρ : St} {n i : Nat} {l : Int32} (hn : n < 2 ^ 31) (h : i < n) : ga (wa ρ 9 (nI n) l) 9 (nI i).toNatClampNeg = ga ρ 9 (nI i).toNatClampNeg := by
  show upd (ga ρ 9) (nI n).toNatClampNeg l (nI i).toNatClampNeg = _
  rw [nI_clamp hn, nI_clamp (by omega), upd_at, if_neg (by omega)]
theorem okm_l {ρ : St} {n z : Nat} {l : Int32} (h : Okm ρ n z) : Okm (wa ρ 9 (nI n) l) n z := h
theorem qm_l {ρ : St} {n x : Nat} {l : Int32} (hn : n < 2 ^ 31) (ox : Okm ρ n x) (on : Okm ρ n n) : Qm (wa ρ 9 (nI n) l) x n ↔ Qm ρ x n := by
  unfold Qm
  have g1 : ∀ q, q ≠ 9 → ga (wa ρ 9 (nI n) l) q = ga ρ q := fun q hq => by rw [ga_wa, if_neg hq]
  rw [g1 3 (by decide), g1 6 (by decide), g1 4 (by decide), g1 5 (by decide), gb_wa]
  by_cases c1 : ga ρ 3 x = ga ρ 3 n
  · by_cases c2 : ga ρ 3 x = 20
    · simp only [if_pos c2]
    · by_cases c3 : ga ρ 3 x = 21
      · simp only [if_neg c2, if_pos c3]
      · simp only [if_neg c2, if_neg c3]
        obtain ⟨⟨i, hi, ei⟩, fi⟩ := ox c2 c3
        obtain ⟨⟨j, hj, ej⟩, fj⟩ := on (by rw [← c1]; exact c2) (by rw [← c1]; exact c3)
        rw [ei, ej, lk_ne hn hi, lk_ne hn hj]
        by_cases c6 : ga ρ 3 x ≤ 10
        · obtain ⟨i2, hi2, ei2⟩ := fi c6
          obtain ⟨j2, hj2, ej2⟩ := fj (by rw [← c1]; exact c6)
          rw [ei2, ej2, lk_ne hn hi2, lk_ne hn hj2]
        · simp only [c6, false_implies]
  · simp only [c1, false_and]
theorem mk_174 (N : Nat) {ρ : St} {n : Nat} (hn : gi ρ 1 = nI n) (h60 : n < 60) (ok : ∀ z, z ≤ n → Okm ρ n z) :
    ∀ (j fu l : Nat), j ≤ n → j < fu → ∃ l', f_M_make_174 N fu (wa ρ 9 (nI n) (nI l)) (nI n) (nI j - 1) = some (nI n, si (wa ρ 9 (nI n) (nI l')) 1 (nI (n + 1))) ∧ ((l' < j ∧ Qm ρ l' n ∧ ∀ i, i < l' → ¬ Qm ρ i n) ∨ (l' = l ∧ ∀ i, i < j → ¬ Qm ρ i n)) := by
  intro j
  induction j with
  | zero =>
    intro fu l hj hfu
    obtain ⟨fu, rfl⟩ : ∃ m, fu = m + 1 := ⟨fu - 1, by omega⟩
    refine ⟨l, ?_, Or.inr ⟨rfl, fun i hi => by omega⟩⟩
    show f_M_make_174_b N (f_M_make_174 N fu) _ (nI n) (nI 0 - 1) = _
    unfold f_M_make_174_b
    rw [if_pos (by decide), nm_eq]
    have eg : gi (wa ρ 9 (nI n) (nI l)) 1 = nI n := hn
    rw [eg, nI_1]
  | succ j ih =>
    intro fu l hj hfu
    obtain ⟨fu, rfl⟩ : ∃ m, fu = m + 1 := ⟨fu - 1, by omega⟩
    obtain ⟨r, r1, r2⟩ := m_isLike N (ρ := wa ρ 9 (nI n) (nI l)) (n := n) (x := j) (y := n) (by omega) (by omega) h60 (okm_l (ok j (by omega))) (okm_l (ok n (Nat.le_refl _)))
    rw [qm_l (by omega) (ok j (by omega)) (ok n (Nat.le_refl _))] at r2
    have em : ∀ a : Int32, a + Int32.ofInt (-1) = a - 1 := by intro a; rw [Int32.sub_eq_add_neg]; rfl
    have e : f_M_make_174 N (fu + 1) (wa ρ 9 (nI n) (nI l)) (nI n) (nI (j + 1) - 1) = f_M_make_174 N fu (wa ρ 9 (nI n) (nI (if r = 0 then l else j))) (nI n) (nI j - 1) := by
      show f_M_make_174_b N (f_M_make_174 N fu) _ (nI n) (nI (j + 1) - 1) = _
      unfold f_M_make_174_b
      rw [nI_pred, if_neg (nI_pos (by omega)), r1, bd_eq]
      by_cases c : r = 0
      · rw [if_pos c, if_pos c, ckb_nI h60 (by decide), ckb_nI h60 (by decide), nm_eq, wa_self rfl, em]
      · rw [if_neg c, if_neg c, ckb_nI h60 (by decide), nm_eq, wa_wa, em]
    rw [e]
    obtain ⟨l', a1, a2⟩ := ih fu (if r = 0 then l else j) (by omega) (by omega)
    refine ⟨l', a1, ?_⟩
    rcases a2 with ⟨b1, b2, b3⟩ | ⟨b1, b2⟩
    · exact Or.inl ⟨by omega, b2, b3⟩
    · by_cases c : r = 0
      · rw [if_pos c] at b1
        refine Or.inr ⟨b1, fun i hi => ?_⟩
        by_cases z : i = j
        · rw [z]; exact fun q => r2.mpr q c
        · exact b2 i (by omega)
      · rw [if_neg c] at b1
        subst b1
        exact Or.inl ⟨by omega, r2.mp c, b2⟩
def mad5 (ρ : St) (n : Nat) (k a b : Int32) (v : Int64) (f : Int32) : St := wz (wl (wa (wa (wa ρ 3 (nI n) k) 4 (nI n) a) 5 (nI n) b) 1 (nI n) v) 6 (nI n) f
def mad (ρ : St) (n : Nat) (k a b : Int32) (v : Int64) (f sz wg : Int32) : St := wz (wa (mad5 ρ n k a b v f) 7 (nI n) sz) 8 (nI n) wg
/-- how a make ends -/
def Mends (ρ : St) (n : Nat) (k a b : Int32) (v : Int64) (f sz wg : Int32) (o : Option (Int32 × St)) : Prop :=
  ∃ l, o = some (nI n, si (wa (mad ρ n k a b v f sz wg) 9 (nI n) (nI l)) 1 (nI (n + 1))) ∧ l ≤ n ∧ (∀ i, i < l → ¬ Qm (mad ρ n k a b v f sz wg) i n) ∧ (l < n → Qm (mad ρ n k a b v f sz wg) l n)
theorem mk_158 (N : Nat) {ρ : St} {n : Nat} {k a b f sz wg : Int32} {v : Int64} (hN : 60 < N) (hn : gi ρ 1 = nI n) (h60 : n < 60) (ok : ∀ z, z ≤ n → Okm (mad ρ n k a b v f sz wg) n z) :
    Mends ρ n k a b v f sz wg (f_M_make_158 N (wa (mad5 ρ n k a b v f) 7 (nI n) sz) (nI n) wg (nI n)) := by
  obtain ⟨l, e, h⟩ := mk_174 N (ρ := mad ρ n k a b v f sz wg) (n := n) hn h60 ok n N n (Nat.le_refl _) (by omega)
  refine ⟨l, ?_, ?_⟩
  · unfold f_M_make_158
    rw [ckb_nI h60 (by decide), nm_eq, ckb_nI h60 (by decide), nm_eq]
    exact e
  · rcases h with ⟨a1, a2, a3⟩ | ⟨a1, a2⟩
    · exact ⟨by omega, a3, fun _ => a2⟩
    · subst a1
      exact ⟨Nat.le_refl _, a2, fun h => by omega⟩
theorem m_make_leaf (N : Nat) {ρ : St} {n : Nat} {k a b f : Int32} {v : Int64} (hN : 60 < N) (hn : gi ρ 1 = nI n) (h60 : n < 60) (hk : k = 20 ∨ k = 21) (ok : ∀ z, z ≤ n → Okm (mad ρ n k a b v f 1 0) n z) : Mends ρ n k a b v f 1 0 (f_M_make N ρ k a b v f) := by
  have h := mk_158 N hN hn h60 ok
  unfold f_M_make
  rw [hn]
  simp only [ckb_nI h60 (show 60 < 2 ^ 31 by decide), nm_eq]
  unfold f_M_make_65 f_M_make_89 f_M_make_108 f_M_make_136 f_M_make_157
  simp only [m_two, bd_eq]
  rcases hk with rfl | rfl
  · simp (decide := true) only [if_true, if_false, ckb_nI h60 (show 60 < 2 ^ 31 by decide), nm_eq]
    exact h
  · simp (decide := true) only [if_true, if_false, ckb_nI h60 (show 60 < 2 ^ 31 by decide), nm_eq]
    exact h
theorem m_make_one (N : Nat) {ρ : St} {n i : Nat} {k b f : Int32} {v : Int64} (hN : 60 < N) (hn : gi ρ 1 = nI n) (h60 : n < 60) (hi : i < n) (hk : k = 11 ∨ k = 12) (ok : ∀ z, z ≤ n → Okm (mad ρ n k (nI i) b v f (1 + ga ρ 7 i) (if ga ρ 8 i = 0 then 0 else 1)) n z) :
    Mends ρ n k (nI i) b v f (1 + ga ρ 7 i) (if ga ρ 8 i = 0 then 0 else 1) (f_M_make N ρ k (nI i) b v f) := by
  have h := mk_158 N hN hn h60 ok
  unfold f_M_make
  rw [hn]
  simp only [ckb_nI h60 (show 60 < 2 ^ 31 by decide), nm_eq]
  unfold f_M_make_60 f_M_make_65 f_M_make_89 f_M_make_108 f_M_make_136 f_M_make_157 f_M_make_153
  simp only [m_two, bd_eq, ckb_nI (show i < 60 by omega) (show 60 < 2 ^ 31 by decide), nI_clamp (show i < 2 ^ 31 by omega)]
  have z : (1 : Int32) + ga ρ 7 i + 0 = 1 + ga ρ 7 i := by simp
  rcases hk with rfl | rfl
  · simp (decide := true) only [if_true, if_false, ckb_nI h60 (show 60 < 2 ^ 31 by decide), nm_eq]
    have z' : (1 : Int32) + ga (wz (wl (wa (wa (wa ρ 3 (nI n) 11) 4 (nI n) (nI i)) 5 (nI n) b) 1 (nI n) v) 6 (nI n) f) 7 i + 0 = 1 + ga ρ 7 i := z
    rw [z']
    by_cases c : ga ρ 8 i = 0
    · rw [if_pos c] at h
      rw [if_pos c, if_pos (show ga (wa (wz (wl (wa (wa (wa ρ 3 (nI n) 11) 4 (nI n) (nI i)) 5 (nI n) b) 1 (nI n) v) 6 (nI n) f) 7 (nI n) (1 + ga ρ 7 i)) 8 i = 0 from c)]
      exact h
    · rw [if_neg c] at h
      rw [if_neg c, if_neg (show ¬ ga (wa (wz (wl (wa (wa (wa ρ 3 (nI n) 11) 4 (nI n) (nI i)) 5 (nI n) b) 1 (nI n) v) 6 (nI n) f) 7 (nI n) (1 + ga ρ 7 i)) 8 i = 0 from c)]
      exact h
  · simp (decide := true) only [if_true, if_false, ckb_nI h60 (show 60 < 2 ^ 31 by decide), nm_eq]
    have z' : (1 : Int32) + ga (wz (wl (wa (wa (wa ρ 3 (nI n) 12) 4 (nI n) (nI i)) 5 (nI n) b) 1 (nI n) v) 6 (nI n) f) 7 i + 0 = 1 + ga ρ 7 i := z
    rw [z']
    by_cases c : ga ρ 8 i = 0
    · rw [if_pos c] at h
      rw [if_pos c, if_pos (show ga (wa (wz (wl (wa (wa (wa ρ 3 (nI n) 12) 4 (nI n) (nI i)) 5 (nI n) b) 1 (nI n) v) 6 (nI n) f) 7 (nI n) (1 + ga ρ 7 i)) 8 i = 0 from c)]
      exact h
    · rw [if_neg c] at h
      rw [if_neg c, if_neg (show ¬ ga (wa (wz (wl (wa (wa (wa ρ 3 (nI n) 12) 4 (nI n) (nI i)) 5 (nI n) b) 1 (nI n) v) 6 (nI n) f) 7 (nI n) (1 + ga ρ 7 i)) 8 i = 0 from c)]
      exact h
theorem m_make_agg (N : Nat) {ρ : St} {n i q : Nat} {b f : Int32} {v : Int64} (hN : 60 < N) (hn : gi ρ 1 = nI n) (h60 : n < 60) (hi : i < n) (hq : q ≤ 5) (ok : ∀ z, z ≤ n → Okm (mad ρ n (nI (30 + q)) (nI i) b v f (1 + ga ρ 7 i) 1) n z) :
    Mends ρ n (nI (30 + q)) (nI i) b v f (1 + ga ρ 7 i) 1 (f_M_make N ρ (nI (30 + q)) (nI i) b v f) := by
  have h := mk_158 N hN hn h60 ok
  unfold f_M_make
  rw [hn]
  simp only [ckb_nI h60 (show 60 < 2 ^ 31 by decide), nm_eq]
  rw [if_neg (show ¬ nI (30 + q) ≤ (12 : Int32) from nI_ge (a := 12) (b := 30 + q) (by omega) (by omega)), if_neg (show ¬ nI (30 + q) < (30 : Int32) from nI_nlt (a := 30 + q) (b := 30) (by omega) (by omega))]
  unfold f_M_make_60 f_M_make_65 f_M_make_89 f_M_make_108 f_M_make_153
  simp only [m_two, bd_eq, ckb_nI (show i < 60 by omega) (show 60 < 2 ^ 31 by decide), nI_clamp (show i < 2 ^ 31 by omega)]
  rw [if_neg (by decide), if_neg (show ¬ nI (30 + q) ≤ (10 : Int32) from nI_ge (a := 10) (b := 30 + q) (by omega) (by omega)), if_pos rfl, ckb_nI h60 (by decide), nm_eq, if_pos (show (30 : Int32) ≤ nI (30 + q) from nI_le (a := 30) (b := 30 + q) (by omega) (by omega))]
  have z : (1 : Int32) + ga ρ 7 i + 0 = 1 + ga ρ 7 i := by simp
  have z' : (1 : Int32) + ga (wz (wl (wa (wa (wa ρ 3 (nI n) (nI (30 + q))) 4 (nI n) (nI i)) 5 (nI n) b) 1 (nI n) v) 6 (nI n) f) 7 i + 0 = 1 + ga ρ 7 i := z
  rw [z']
  exact h
theorem m_make_two (N : Nat) {ρ : St} {n i j q : Nat} {f : Int32} {v : Int64} (hN : 60 < N) (hn : gi ρ 1 = nI n) (h60 : n < 60) (hi : i < n) (hj : j < n) (hq : q ≤ 10) (wg : Int32) (hw : wg = if ga ρ 8 i = 0 ∧ ga ρ 8 j = 0 then 0 else 1) (ok : ∀ z, z ≤ n → Okm (mad ρ n (nI q) (nI i) (nI j) v f (1 + ga ρ 7 i + ga ρ 7 j) wg) n z) :
    Mends ρ n (nI q) (nI i) (nI j) v f (1 + ga ρ 7 i + ga ρ 7 j) wg (f_M_make N ρ (nI q) (nI i) (nI j) v f) := by
  have h := mk_158 N hN hn h60 ok
  have q10 : nI q ≤ (10 : Int32) := nI_le (a := q) (b := 10) hq (by decide)
  unfold f_M_make
  rw [hn]
  simp only [ckb_nI h60 (show 60 < 2 ^ 31 by decide), nm_eq]
  rw [if_pos (show nI q ≤ (12 : Int32) from nI_le (a := q) (b := 12) (by omega) (by decide))]
  unfold f_M_make_60 f_M_make_65 f_M_make_89 f_M_make_108 f_M_make_136 f_M_make_153 f_M_make_157
  simp only [m_two, bd_eq, ckb_nI (show i < 60 by omega) (show 60 < 2 ^ 31 by decide), nI_clamp (show i < 2 ^ 31 by omega), ckb_nI (show j < 60 by omega) (show 60 < 2 ^ 31 by decide), nI_clamp (show j < 2 ^ 31 by omega), ckb_nI h60 (show 60 < 2 ^ 31 by decide), nm_eq, if_pos q10]
  simp only [show ¬ (1 : Int32) = 0 by decide, if_false, if_neg (show ¬ (30 : Int32) ≤ nI q from nI_ge (a := q) (b := 30) (by omega) (by decide))]
  by_cases c : ga ρ 8 i = 0
  · rw [if_pos (show ga (wa (wz (wl (wa (wa (wa ρ 3 (nI n) (nI q)) 4 (nI n) (nI i)) 5 (nI n) (nI j)) 1 (nI n) v) 6 (nI n) f) 7 (nI n) _) 8 i = 0 from c)]
    by_cases d : ga ρ 8 j = 0
    · rw [if_pos (show ga (wa (wz (wl (wa (wa (wa ρ 3 (nI n) (nI q)) 4 (nI n) (nI i)) 5 (nI n) (nI j)) 1 (nI n) v) 6 (nI n) f) 7 (nI n) _) 8 j = 0 from d)]
      rw [if_pos ⟨c, d⟩] at hw
      subst hw
      exact h
    · rw [if_neg (show ¬ ga (wa (wz (wl (wa (wa (wa ρ 3 (nI n) (nI q)) 4 (nI n) (nI i)) 5 (nI n) (nI j)) 1 (nI n) v) 6 (nI n) f) 7 (nI n) _) 8 j = 0 from d)]
      rw [if_neg (fun y => d y.2)] at hw
      subst hw
      exact h
  · rw [if_neg (show ¬ ga (wa (wz (wl (wa (wa (wa ρ 3 (nI n) (nI q)) 4 (nI n) (nI i)) 5 (nI n) (nI j)) 1 (nI n) v) 6 (nI n) f) 7 (nI n) _) 8 i = 0 from c)]
    rw [if_neg (fun y => c y.1)] at hw
    subst hw
    exact h

