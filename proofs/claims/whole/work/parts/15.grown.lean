/-! a new expression on both sides: what is known of all of them is known of one more (own rows) -/
theorem ivE_grow {σ ρ σ' ρ' : St} {n m m' : Nat} {τ : Nat → Tr} {t : Tr} (h : IvE σ ρ n m τ) (hn : n < 60) (hm : m ≤ m') (hm8 : m' ≤ 8)
    (x1 : ∀ e, e < n → ga σ' 3 e = ga σ 3 e ∧ gb σ' 1 e = gb σ 1 e ∧ ga σ' 4 e = ga σ 4 e ∧ ga σ' 5 e = ga σ 5 e ∧ ga σ' 6 e = ga σ 6 e ∧ ga σ' 8 e = ga σ 8 e ∧ ga σ' 9 e = ga σ 9 e ∧ ga σ' 7 e = ga σ 7 e)
    (x2 : ∀ s, s < m → ga σ' 10 s = ga σ 10 s ∧ ga σ' 11 s = ga σ 11 s ∧ ga σ' 12 s = ga σ 12 s)
    (y1 : ∀ e, e < n → ga ρ' 3 e = ga ρ 3 e ∧ gb ρ' 1 e = gb ρ 1 e ∧ ga ρ' 4 e = ga ρ 4 e ∧ ga ρ' 5 e = ga ρ 5 e ∧ ga ρ' 6 e = ga ρ 6 e ∧ ga ρ' 7 e = ga ρ 7 e ∧ ga ρ' 8 e = ga ρ 8 e ∧ ga ρ' 9 e = ga ρ 9 e)
    (y2 : ∀ s, s < m → ga ρ' 10 s = ga ρ 10 s)
    (c1 : gi σ' 1 = nI (n + 1)) (c2 : gi ρ' 1 = nI (n + 1)) (c3 : gi σ' 2 = nI m') (c4 : gi ρ' 2 = nI m')
    (z : IvX σ' ρ' (up τ n t) m' n) (za : ∀ s, m ≤ s → s < m' → ga ρ' 10 s = nI n ∧ ∃ c a, c % 8 = s ∧ t = .mulL c a) : IvE σ' ρ' (n + 1) m' (up τ n t) := by
  obtain ⟨h60, h8, e1, e2, e3, e4, hx, hs⟩ := h
  refine ⟨by omega, hm8, c1, c2, c3, c4, ?_, ?_⟩
  · intro e he
    by_cases c : e = n
    · rw [c]; exact z
    · have le : e < n := by omega
      obtain ⟨a1, a2, a3, a4, a5, a6, a7, a8, a9, a10, ⟨l, b1, b2⟩, ⟨l', b3, b4⟩⟩ := hx e le
      obtain ⟨p1, p2, p3, p4, p5, p6, p7, p8⟩ := x1 e le
      obtain ⟨q1, q2, q3, q4, q5, q6, q7, q8⟩ := y1 e le
      unfold IvX
      rw [up_lt le]
      refine ⟨XE_mono (m := m) p1 p2 p3 p4 (fun s hs => (x2 s hs).1) (fun s hs => (x2 s hs).2.1) (fun s hs => (x2 s hs).2.2) (fun i hi => up_lt (by omega)) a5 a1, ME_mono (m := m) q1 q2 q3 q4 q5 y2 (fun i hi => up_lt (by omega)) a5 a2, a3, a4, fun c a q => Nat.lt_of_lt_of_le (a5 c a q) hm, p5.trans a6, q6.trans a7, p6.trans a8, p7.trans a9, q7.trans a10, ⟨l, ?_, p8.trans b2⟩, ⟨l', lst_up (g := tfg) rfl le b3, q8.trans b4⟩⟩
      exact lst_up (g := id) (f := τ) rfl le b1
  · intro s hs'
    by_cases c : s < m
    · obtain ⟨e, b1, b2, c', a', b3, b4⟩ := hs s c
      exact ⟨e, by omega, (y2 s c).trans b2, c', a', b3, by rw [up_lt b1]; exact b4⟩
    · obtain ⟨b1, c', a', b3, b4⟩ := za s (by omega) hs'
      exact ⟨n, by omega, b1, c', a', b3, by rw [up_n]; exact b4⟩
theorem xe_of {σ : St} {τ : Nat → Tr} {e : Nat} {t : Tr} (w : twf t) (h1 : ga σ 3 e = nI (kd t)) (h2 : gb σ 1 e = dt t) (h3 : RF τ e (ga σ 4 e) (tc1 t)) (h4 : RF τ e (ga σ 5 e) (tc2 t))
    (h5 : ∀ c a, t = .mulL c a → ga σ 10 (c % 8) = nI (c / 8 % 8) ∧ ga σ 12 (c % 8) = (if c / 64 = 1 ∧ c / 8 % 8 ≠ 0 then 1 else 0) ∧ ga σ 11 (c % 8) = ga σ 4 e) : XE σ τ e t := by
  rcases tcases w with rfl | ⟨n, hn, rfl⟩ | ⟨i, hi, rfl⟩ | ⟨k, a, b, hk, rfl⟩ | ⟨k, a, hk, rfl⟩ | ⟨c, a, hc, hq, rfl⟩
  · exact ⟨h1, h2, h3, h4⟩
  · exact ⟨h1, by rw [h2]; exact cn_vl hn, h3, h4⟩
  · exact ⟨h1, h2, h3, h4⟩
  · obtain ⟨i, b1, b3, b5⟩ := h3
    obtain ⟨j, b2, b4, b6⟩ := h4
    exact ⟨h1, h2, i, j, b1, b2, b3, b4, b5, b6⟩
  · obtain ⟨i, b1, b3, b5⟩ := h3
    exact ⟨h1, h2, i, b1, b3, h4, b5⟩
  · obtain ⟨i, b1, b3, b5⟩ := h3
    obtain ⟨g1, g2, g3⟩ := h5 c a rfl
    exact ⟨h1, h2, g1, g2, i, b1, b3, h4, by rw [g3, b3], b5⟩
theorem nI_or (a b : Nat) : nI a ||| nI b = nI (a ||| b) := by
  unfold nI
  apply Int32.toBitVec_inj.1
  simp [BitVec.ofNat_or]
theorem rf_n {τ : Nat → Tr} {n e : Nat} {x : Int32} {o : Option Tr} (he : e ≤ n) (h : RF τ e x o) : Rf n x := by
  cases o with
  | none => exact Or.inl h
  | some a =>
    obtain ⟨i, h1, h2, -⟩ := h
    exact Or.inr ⟨i, by omega, h2⟩
theorem okm_me {ρ : St} {τ : Nat → Tr} {n z : Nat} {t : Tr} (w : twf t) (hz : z ≤ n) (h : ME ρ τ z t) : Okm ρ n z := by
  intro k1 k2
  rcases tcases w with rfl | ⟨m, hm, rfl⟩ | ⟨b, hb, rfl⟩ | ⟨k, a, b, hk, rfl⟩ | ⟨k, a, hk, rfl⟩ | ⟨c, a, hc, hq, rfl⟩
  · exact absurd h.1 k1
  · exact absurd h.1 k1
  · exact absurd h.1 k2
  · obtain ⟨-, -, i, j, b1, b2, b3, b4, -⟩ := h
    exact ⟨⟨i, by omega, b3⟩, fun _ => ⟨j, by omega, b4⟩⟩
  · obtain ⟨q, -, i, b1, b3, -⟩ := h
    refine ⟨⟨i, by omega, b3⟩, fun z => ?_⟩
    rw [q] at z
    exact absurd z (nI_ge (a := 10) (b := k) (by omega) (by omega))
  · obtain ⟨q, -, -, i, b1, b3, -⟩ := h
    refine ⟨⟨i, by omega, b3⟩, fun z => ?_⟩
    rw [q] at z
    exact absurd z (nI_ge (a := 10) (b := 30 + c / 8 % 8) (by omega) (by omega))
/-- σ0 is σ but for what aggregates are of, from slot m on -/
def AgX (σ σ0 : St) (n m m' : Nat) : Prop := gi σ0 1 = nI n ∧ gi σ0 2 = nI m' ∧ (∀ r, r ≠ 10 → r ≠ 11 → r ≠ 12 → ga σ0 r = ga σ r) ∧ gb σ0 = gb σ ∧ ∀ s, s < m → ga σ0 10 s = ga σ 10 s ∧ ga σ0 11 s = ga σ 11 s ∧ ga σ0 12 s = ga σ 12 s
def AgM (ρ ρ0 : St) (n m m' : Nat) : Prop := gi ρ0 1 = nI n ∧ gi ρ0 2 = nI m' ∧ (∀ r, r ≠ 10 → ga ρ0 r = ga ρ r) ∧ gb ρ0 = gb ρ ∧ ∀ s, s < m → ga ρ0 10 s = ga ρ 10 s
theorem upd_lt {f : Nat → Int32} {n e : Nat} {x : Int32} (hn : n < 60) (h : e < n) : upd f (nI n).toNatClampNeg x e = f e := by
  rw [nI_clamp (by omega), upd_at, if_neg (by omega)]
theorem upd_n {f : Nat → Int32} {n : Nat} {x : Int32} (hn : n < 60) : upd f (nI n).toNatClampNeg x n = x := by
  rw [nI_clamp (by omega), upd_at, if_pos rfl]
theorem updL_lt {f : Nat → Int64} {n e : Nat} {x : Int64} (hn : n < 60) (h : e < n) : vp_updL f (nI n).toNatClampNeg x e = f e := by
  rw [nI_clamp (by omega), updL_at, if_neg (by omega)]
theorem updL_n {f : Nat → Int64} {n : Nat} {x : Int64} (hn : n < 60) : vp_updL f (nI n).toNatClampNeg x n = x := by
  rw [nI_clamp (by omega), updL_at, if_pos rfl]
theorem nIsh : ∀ i, i < 12 → (1 : Int32) <<< ((nI i).toInt64.toInt32 &&& 31) = nI (2 ^ i) := by decide +kernel

