/-! the tables stay alike (own rows) -/
def upd' (f : Nat → Nat) (k v j : Nat) : Nat := if j = k then v else f j
theorem ivT_table {σ ρ : St} {nt : Nat} {w h : Nat → Nat} (hT : IvT σ ρ nt w h) {v : Nat} (h1 : 1 ≤ v) (h4 : v ≤ 4) (hn : nt < 6) :
    IvT (si (wa σ 0 (nI nt) (nI v)) 0 (nI (nt + 1))) (si (wa (wa ρ 0 (nI nt) (nI v)) 1 (nI nt) 0) 0 (nI (nt + 1))) (nt + 1) (upd' w nt v) h := by
  obtain ⟨-, e1, e2, hw, hr, hz, hc⟩ := hT
  refine ⟨by omega, by rw [gi_si, if_pos rfl], by rw [gi_si, if_pos rfl], ?_, ?_, ?_, ?_⟩
  · intro t ht
    simp (decide := true) only [ga_si, ga_wa, if_true, if_false, nI_clamp (show nt < 2 ^ 31 by omega), upd_at, upd']
    by_cases c : t = nt
    · subst c
      have := hz t (Nat.le_refl _)
      simp only [if_true, this]
      exact ⟨h1, h4, by omega, trivial, trivial, rfl⟩
    · simp only [if_neg c]
      exact hw t (by omega)
  · intro t ht
    exact hr t ht
  · intro t ht
    exact hz t (by omega)
  · intro t r c ht hr' hc'
    by_cases q : t = nt
    · subst q
      rw [hz t (Nat.le_refl _)] at hr'
      omega
    · rw [upd', if_neg q] at hc'
      exact hc t r c (by omega) hr' hc'
theorem xin_c {σ : St} {row : Nat → Int64} {x : Int32} {t h j : Nat} : gb (xin σ row x t h) 0 j = if 32 * t + 4 * h ≤ j ∧ j < 32 * t + 4 * h + 4 then row (j - (32 * t + 4 * h)) else gb σ 0 j := by
  show va_cpy row (gb σ 0) 0 (32 * t + 4 * h) 4 j = _
  unfold va_cpy
  simp only [Nat.zero_add]
theorem xin_b {σ : St} {row : Nat → Int64} {x : Int32} {t h j : Nat} (hb : 8 * t + h < 2 ^ 31) : ga (xin σ row x t h) 2 j = if j = 8 * t + h then x else ga σ 2 j := by
  show upd (ga σ 2) (nI (8 * t + h)).toNatClampNeg x j = _
  rw [nI_clamp hb, upd_at]
theorem ivT_insert {σ ρ : St} {nt : Nat} {w h : Nat → Nat} (hT : IvT σ ρ nt w h) {t : Nat} (ht : t < nt) (h8 : h t < 8) {f : Nat → Int64} {x : Int32} (hg : ∀ q, q < w t → gd f x q) :
    IvT (xin σ f x t (h t)) (min_ ρ f x t (h t) (w t)) nt w (upd' h t (h t + 1)) := by
  obtain ⟨h6, e1, e2, hw, hr, hz, hc⟩ := hT
  have eh : ∀ q, ga (min_ ρ f x t (h t) (w t)) 1 q = if q = t then nI (h t + 1) else ga ρ 1 q := by
    intro q
    unfold min_
    rw [ga_wa, if_pos rfl, nI_clamp (by omega), upd_at, mwr_ga _ _ _ _ _ _ _ (by decide)]
  have ew : ga (min_ ρ f x t (h t) (w t)) 0 = ga ρ 0 := by
    unfold min_
    rw [ga_wa, if_neg (by decide), mwr_ga _ _ _ _ _ _ _ (by decide)]
  have er : ∀ q, ga (xin σ f x t (h t)) 1 q = if q = t then nI (h t + 1) else ga σ 1 q := by
    intro q
    show upd (ga σ 1) (nI t).toNatClampNeg (nI (h t + 1)) q = _
    rw [nI_clamp (by omega), upd_at]
  refine ⟨h6, e1, ?_, ?_, ?_, ?_, ?_⟩
  · unfold min_; rw [gi_wa, mwr_gi]; exact e2
  · intro q hq
    obtain ⟨a1, a2, a3, a4, a5, a6⟩ := hw q hq
    rw [eh, ew, upd']
    by_cases c : q = t
    · subst c
      rw [if_pos rfl, if_pos rfl]
      exact ⟨a1, a2, h8, a4, a5, rfl⟩
    · rw [if_neg c, if_neg c]
      exact ⟨a1, a2, a3, a4, a5, a6⟩
  · intro q hq
    rw [er, upd']
    by_cases c : q = t
    · subst c
      rw [if_pos rfl, if_pos rfl]
    · rw [if_neg c, if_neg c]; exact hr q hq
  · intro q hq
    rw [upd', if_neg (by omega)]; exact hz q hq
  · intro q r c hq hr' hc'
    obtain ⟨a1, a2, a3, -⟩ := hw q hq
    obtain ⟨b1, b2, b3, -⟩ := hw t ht
    have k1 : ga (min_ ρ f x t (h t) (w t)) 2 (32 * q + 4 * r + c) = if 32 * t + 4 * h t + 0 ≤ 32 * q + 4 * r + c ∧ 32 * q + 4 * r + c < 32 * t + 4 * h t + 0 + w t then (if bit0 x (32 * q + 4 * r + c - (32 * t + 4 * h t)) then 0 else 1) else ga ρ 2 (32 * q + 4 * r + c) := by
      unfold min_
      rw [ga_wa, if_neg (by decide)]
      exact mwr_e f x _ _ _ ρ _ (by omega)
    have k2 : gb (min_ ρ f x t (h t) (w t)) 0 (32 * q + 4 * r + c) = if 32 * t + 4 * h t + 0 ≤ 32 * q + 4 * r + c ∧ 32 * q + 4 * r + c < 32 * t + 4 * h t + 0 + w t then f (32 * q + 4 * r + c - (32 * t + 4 * h t)) else gb ρ 0 (32 * q + 4 * r + c) := by
      unfold min_
      rw [gb_wa]
      exact mwr_c f x _ _ _ ρ _ (by omega)
    unfold IvC
    rw [k1, k2, xin_c, xin_b (by omega)]
    by_cases e : q = t ∧ r = h t
    · obtain ⟨rfl, rfl⟩ := e
      rw [if_pos (show 32 * q + 4 * h q + 0 ≤ 32 * q + 4 * h q + c ∧ 32 * q + 4 * h q + c < 32 * q + 4 * h q + 0 + w q by omega), if_pos (show 32 * q + 4 * h q + 0 ≤ 32 * q + 4 * h q + c ∧ 32 * q + 4 * h q + c < 32 * q + 4 * h q + 0 + w q by omega), if_pos rfl, if_pos (show 32 * q + 4 * h q ≤ 32 * q + 4 * h q + c ∧ 32 * q + 4 * h q + c < 32 * q + 4 * h q + 4 by omega), Nat.add_sub_cancel_left]
      by_cases b : bit0 x c
      · exact Or.inl ⟨b, if_pos b, rfl, hg c hc' b⟩
      · exact Or.inr ⟨b, if_neg b⟩
    · have hr2 : r < h q := by
        rw [upd'] at hr'
        by_cases z : q = t
        · rw [if_pos z] at hr'
          subst z
          have : r ≠ h q := fun y => e ⟨rfl, y⟩
          omega
        · rw [if_neg z] at hr'; exact hr'
      have hd : q ≠ t ∨ r ≠ h t := by
        by_cases z : q = t
        · exact Or.inr fun y => e ⟨z, y⟩
        · exact Or.inl z
      rw [if_neg (show ¬ (32 * t + 4 * h t + 0 ≤ 32 * q + 4 * r + c ∧ 32 * q + 4 * r + c < 32 * t + 4 * h t + 0 + w t) by omega), if_neg (show ¬ (32 * t + 4 * h t + 0 ≤ 32 * q + 4 * r + c ∧ 32 * q + 4 * r + c < 32 * t + 4 * h t + 0 + w t) by omega), if_neg (show ¬ 8 * q + r = 8 * t + h t by omega), if_neg (show ¬ (32 * t + 4 * h t ≤ 32 * q + 4 * r + c ∧ 32 * q + 4 * r + c < 32 * t + 4 * h t + 4) by omega)]
      exact hc q r c hq hr2 hc'

