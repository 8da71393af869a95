/-! X's add and M's make in trees (own rows) -/
def os (f : Tr → Nat) : Option Tr → Nat
  | none => 0
  | some a => f a
theorem tsz_os {t : Tr} (w : twf t) : tsz t = 1 + os tsz (tc1 t) + os tsz (tc2 t) := by
  rcases tcases w with rfl | ⟨n, hn, rfl⟩ | ⟨i, hi, rfl⟩ | ⟨k, a, b, hk, rfl⟩ | ⟨k, a, hk, rfl⟩ | ⟨c, a, hc, hq, rfl⟩ <;> simp only [tsz, tc1, tc2, os] <;> omega
theorem xad_n {σ : St} {n : Nat} {k a b p cb ab : Int32} {v : Int64} (hn : n < 60) : ga (xad σ n k v a b p cb ab) 3 n = k ∧ gb (xad σ n k v a b p cb ab) 1 n = v ∧ ga (xad σ n k v a b p cb ab) 4 n = a ∧ ga (xad σ n k v a b p cb ab) 5 n = b ∧ ga (xad σ n k v a b p cb ab) 6 n = p ∧ ga (xad σ n k v a b p cb ab) 8 n = cb ∧ ga (xad σ n k v a b p cb ab) 9 n = ab :=
  ⟨upd_n hn, updL_n hn, upd_n hn, upd_n hn, upd_n hn, upd_n hn, upd_n hn⟩
theorem xad_lt {σ : St} {n e : Nat} {k a b p cb ab : Int32} {v : Int64} (hn : n < 60) (he : e < n) : ga (xad σ n k v a b p cb ab) 3 e = ga σ 3 e ∧ gb (xad σ n k v a b p cb ab) 1 e = gb σ 1 e ∧ ga (xad σ n k v a b p cb ab) 4 e = ga σ 4 e ∧ ga (xad σ n k v a b p cb ab) 5 e = ga σ 5 e ∧ ga (xad σ n k v a b p cb ab) 6 e = ga σ 6 e ∧ ga (xad σ n k v a b p cb ab) 8 e = ga σ 8 e ∧ ga (xad σ n k v a b p cb ab) 9 e = ga σ 9 e :=
  ⟨upd_lt hn he, updL_lt hn he, upd_lt hn he, upd_lt hn he, upd_lt hn he, upd_lt hn he, upd_lt hn he⟩
theorem grow_X (N : Nat) (hN : 60 < N) {σ ρ σ0 : St} {n m m' : Nat} {τ : Nat → Tr} {t : Tr} {k a b : Int32} {v : Int64} (h : IvE σ ρ n m τ) (hn : n < 60) (g : AgX σ σ0 n m m') (w : twf t) (hk : k = nI (kd t)) (hv : v = dt t) (ha : RF τ n a (tc1 t)) (hb : RF τ n b (tc2 t))
    (hg : ∀ c x, t = .mulL c x → c % 8 = m ∧ ga σ0 10 m = nI (c / 8 % 8) ∧ ga σ0 12 m = (if c / 64 = 1 ∧ c / 8 % 8 ≠ 0 then 1 else 0) ∧ ga σ0 11 m = a) :
    ∃ l, f_E_add N σ0 k v a b = some (nI n, xadd σ0 n k v a b (nI (tsz t)) (nI (tcb t)) (nI (tab t)) (nI l)) ∧ Lst (up τ n t) n l ∧ XE (xad σ0 n k v a b (nI (tsz t)) (nI (tcb t)) (nI (tab t))) (up τ n t) n t := by
  obtain ⟨h60, h8, e1, e2, e3, e4, hx, hs⟩ := h
  obtain ⟨g1, g2, g3, g4, g5⟩ := g
  have E1 : ga σ0 3 = ga σ 3 := g3 _ (by decide) (by decide) (by decide)
  have E2 : ga σ0 4 = ga σ 4 := g3 _ (by decide) (by decide) (by decide)
  have E3 : ga σ0 5 = ga σ 5 := g3 _ (by decide) (by decide) (by decide)
  have E4 : ga σ0 6 = ga σ 6 := g3 _ (by decide) (by decide) (by decide)
  have E5 : ga σ0 8 = ga σ 8 := g3 _ (by decide) (by decide) (by decide)
  have E6 : ga σ0 9 = ga σ 9 := g3 _ (by decide) (by decide) (by decide)
  have E7 : ga σ0 7 = ga σ 7 := g3 _ (by decide) (by decide) (by decide)
  have up1 : ∀ {x : Int32} {o : Option Tr}, RF τ n x o → RF (up τ n t) n x o := by
    intro x o q
    cases o with
    | none => exact q
    | some a =>
      obtain ⟨i, q1, q2, q3⟩ := q
      exact ⟨i, q1, q2, by rw [up_lt q1]; exact q3⟩
  have pa : ∀ (f : Nat → Int32) (s : Tr → Nat) (x : Int32) (o : Option Tr), (∀ e, e < n → f e = nI (s (τ e))) → RF τ n x o → atI f 0 x = nI (os s o) := by
    intro f s x o hf q
    cases o with
    | none => rw [show x = -1 from q]; rfl
    | some a =>
      obtain ⟨i, q1, q2, q3⟩ := q
      rw [q2, atI_yes (by omega), hf i q1, q3]
      rfl
  have s1 : ∀ x o, RF τ n x o → atI (ga σ0 6) 0 x = nI (os tsz o) := fun x o => pa _ _ x o (fun e he => by rw [E4]; exact (hx e he).2.2.2.2.2.1)
  have s2 : ∀ x o, RF τ n x o → atI (ga σ0 8) 0 x = nI (os tcb o) := fun x o => pa _ _ x o (fun e he => by rw [E5]; exact (hx e he).2.2.2.2.2.2.2.1)
  have s3 : ∀ x o, RF τ n x o → atI (ga σ0 9) 0 x = nI (os tab o) := fun x o => pa _ _ x o (fun e he => by rw [E6]; exact (hx e he).2.2.2.2.2.2.2.2.1)
  have hf : ∀ i, i < n → Rf n (ga σ0 4 i) ∧ Rf n (ga σ0 5 i) := by
    intro i hi
    obtain ⟨a1, -, a3, -⟩ := hx i hi
    obtain ⟨-, -, b3, b4⟩ := xe_v a3 a1
    rw [E2, E3]
    exact ⟨rf_n (by omega) b3, rf_n (by omega) b4⟩
  have k15 : k = 15 ↔ kd t = 15 := by
    have : kd t < 17 := by rcases tcases w with rfl | ⟨n, hn, rfl⟩ | ⟨i, hi, rfl⟩ | ⟨k, a, b, hk, rfl⟩ | ⟨k, a, hk, rfl⟩ | ⟨c, a, hc, hq, rfl⟩ <;> simp only [kd] <;> omega
    rw [hk]
    exact nI_eq (b := 15) (by omega) (by decide)
  have k16 : k = 16 ↔ kd t = 16 := by
    have : kd t < 17 := by rcases tcases w with rfl | ⟨n, hn, rfl⟩ | ⟨i, hi, rfl⟩ | ⟨k, a, b, hk, rfl⟩ | ⟨k, a, hk, rfl⟩ | ⟨c, a, hc, hq, rfl⟩ <;> simp only [kd] <;> omega
    rw [hk]
    exact nI_eq (b := 16) (by omega) (by decide)
  have hp : nI (tsz t) = 1 + atI (ga σ0 6) 0 a + atI (ga σ0 6) 0 b := by
    rw [s1 a _ ha, s1 b _ hb, tsz_os w, show (1 : Int32) = nI 1 from rfl, nI_add, nI_add]
  have hc : nI (tcb t) = if k = 15 then 1 <<< (v.toInt32 &&& 31) else atI (ga σ0 8) 0 a ||| atI (ga σ0 8) 0 b := by
    rw [s2 a _ ha, s2 b _ hb, nI_or]
    simp only [k15]
    subst hv
    rcases tcases w with rfl | ⟨n, hn, rfl⟩ | ⟨i, hi, rfl⟩ | ⟨k, a, b, hk, rfl⟩ | ⟨k, a, hk, rfl⟩ | ⟨c, a, hc, hq, rfl⟩
    · rfl
    · rw [if_neg (by simp [kd])]; simp [tcb, tab, os, tc1, tc2]
    · exact (nIsh i hi).symm
    · rw [if_neg (by simp only [kd]; omega)]; rfl
    · rw [if_neg (by simp only [kd]; omega)]; simp only [tcb, os, tc1, tc2, Nat.or_zero]
    · rw [if_neg (by simp only [kd]; omega)]; simp only [tcb, os, tc1, tc2, Nat.or_zero]
  have hg' : nI (tab t) = if k = 16 then 1 <<< (v.toInt32 &&& 31) else atI (ga σ0 9) 0 a ||| atI (ga σ0 9) 0 b := by
    rw [s3 a _ ha, s3 b _ hb, nI_or]
    simp only [k16]
    subst hv
    rcases tcases w with rfl | ⟨n, hn, rfl⟩ | ⟨i, hi, rfl⟩ | ⟨k, a, b, hk, rfl⟩ | ⟨k, a, hk, rfl⟩ | ⟨c, a, hc, hq, rfl⟩
    · rfl
    · rw [if_neg (by simp [kd])]; simp [tcb, tab, os, tc1, tc2]
    · rw [if_neg (by simp [kd])]; simp [tcb, tab, os, tc1, tc2]
    · rw [if_neg (by simp only [kd]; omega)]; rfl
    · rw [if_neg (by simp only [kd]; omega)]; simp only [tab, os, tc1, tc2, Nat.or_zero]
    · exact (nIsh (c % 8) (by omega)).symm
  obtain ⟨l, f1, f2⟩ := x_add N (σ := σ0) (n := n) (k := k) (a := a) (b := b) (v := v) hN g1 hn (rf_n (Nat.le_refl _) ha) (rf_n (Nat.le_refl _) hb) hf _ _ _ hp hc hg'
  obtain ⟨n1, n2, n3, n4, -⟩ := xad_n (σ := σ0) (k := k) (a := a) (b := b) (v := v) (p := nI (tsz t)) (cb := nI (tcb t)) (ab := nI (tab t)) hn
  have xn : XE (xad σ0 n k v a b (nI (tsz t)) (nI (tcb t)) (nI (tab t))) (up τ n t) n t := by
    refine xe_of w (n1.trans hk) (n2.trans hv) (by rw [n3]; exact up1 ha) (by rw [n4]; exact up1 hb) ?_
    intro c x ht
    obtain ⟨q1, q2, q3, q4⟩ := hg c x ht
    rw [q1, n3]
    exact ⟨q2, q3, q4⟩
  have hx' : ∀ i, i ≤ n → XE (xad σ0 n k v a b (nI (tsz t)) (nI (tcb t)) (nI (tab t))) (up τ n t) i (up τ n t i) := by
    intro i hi
    by_cases c : i = n
    · rw [c, up_n]; exact xn
    · have le : i < n := by omega
      obtain ⟨p1, p2, p3, p4, -⟩ := xad_lt (σ := σ0) (k := k) (a := a) (b := b) (v := v) (p := nI (tsz t)) (cb := nI (tcb t)) (ab := nI (tab t)) hn le
      rw [up_lt le]
      refine XE_mono (m := m) (σ := σ) (p1.trans (by rw [E1])) (p2.trans (by rw [g4])) (p3.trans (by rw [E2])) (p4.trans (by rw [E3])) (fun s hs => (g5 s hs).1) (fun s hs => (g5 s hs).2.1) (fun s hs => (g5 s hs).2.2) (fun i hi => up_lt (by omega)) (hx i le).2.2.2.2.1 (hx i le).1
  have hw' : ∀ i, i ≤ n → twf (up τ n t i) := by
    intro i hi
    by_cases c : i = n
    · rw [c, up_n]; exact w
    · rw [up_lt (by omega)]; exact (hx i (by omega)).2.2.1
  have hl : ∀ i, i < n → ∃ l, Lst τ i l ∧ ga σ0 7 i = nI l := fun i hi => by rw [E7]; exact (hx i hi).2.2.2.2.2.2.2.2.2.2.1
  have hq : ∀ i, i < n → (Qk (xad σ0 n k v a b (nI (tsz t)) (nI (tcb t)) (nI (tab t))) n i ↔ τ i = t) := by
    intro i hi
    refine qk_iff h60 hx' hw' hl ?_ hi
    intro i c a c' a' hi q1 q2
    have := (hx i hi).2.2.2.2.1 c a q1
    have := (hg c' a' q2).1
    omega
  obtain ⟨l', r1, r2⟩ := x_lst hl hq f2
  exact ⟨l', by rw [f1, r2], r1, xn⟩
theorem mad_n {ρ : St} {n : Nat} {k a b f sz wg : Int32} {v : Int64} (hn : n < 60) : ga (mad ρ n k a b v f sz wg) 3 n = k ∧ gb (mad ρ n k a b v f sz wg) 1 n = v ∧ ga (mad ρ n k a b v f sz wg) 4 n = a ∧ ga (mad ρ n k a b v f sz wg) 5 n = b ∧ ga (mad ρ n k a b v f sz wg) 6 n = vp_nar .boolean f ∧ ga (mad ρ n k a b v f sz wg) 7 n = sz ∧ ga (mad ρ n k a b v f sz wg) 8 n = vp_nar .boolean wg :=
  ⟨upd_n hn, updL_n hn, upd_n hn, upd_n hn, upd_n hn, upd_n hn, upd_n hn⟩
theorem mad_lt {ρ : St} {n e : Nat} {k a b f sz wg : Int32} {v : Int64} (hn : n < 60) (he : e < n) : ga (mad ρ n k a b v f sz wg) 3 e = ga ρ 3 e ∧ gb (mad ρ n k a b v f sz wg) 1 e = gb ρ 1 e ∧ ga (mad ρ n k a b v f sz wg) 4 e = ga ρ 4 e ∧ ga (mad ρ n k a b v f sz wg) 5 e = ga ρ 5 e ∧ ga (mad ρ n k a b v f sz wg) 6 e = ga ρ 6 e ∧ ga (mad ρ n k a b v f sz wg) 7 e = ga ρ 7 e ∧ ga (mad ρ n k a b v f sz wg) 8 e = ga ρ 8 e :=
  ⟨upd_lt hn he, updL_lt hn he, upd_lt hn he, upd_lt hn he, upd_lt hn he, upd_lt hn he, upd_lt hn he⟩
theorem grow_M {σ ρ ρ0 : St} {n m m' : Nat} {τ : Nat → Tr} {t : Tr} {k a b f sz wg : Int32} {v : Int64} (h : IvE σ ρ n m τ) (hn : n < 60) (g : AgM ρ ρ0 n m m') (w : twf t) (hM : ME (mad ρ0 n k a b v f sz wg) (up τ n t) n t) :
    (∀ z, z ≤ n → Okm (mad ρ0 n k a b v f sz wg) n z) ∧ ∀ o, Mends ρ0 n k a b v f sz wg o → ∃ l, o = some (nI n, si (wa (mad ρ0 n k a b v f sz wg) 9 (nI n) (nI l)) 1 (nI (n + 1))) ∧ Lst (fun j => tfg (up τ n t j)) n l := by
  obtain ⟨h60, h8, e1, e2, e3, e4, hx, hs⟩ := h
  obtain ⟨g1, g2, g3, g4, g5⟩ := g
  have hx' : ∀ i, i ≤ n → ME (mad ρ0 n k a b v f sz wg) (up τ n t) i (up τ n t i) := by
    intro i hi
    by_cases c : i = n
    · rw [c, up_n]; exact hM
    · have le : i < n := by omega
      rw [up_lt le]
      obtain ⟨p1, p2, p3, p4, p5, -⟩ := mad_lt (ρ := ρ0) (k := k) (a := a) (b := b) (v := v) (f := f) (sz := sz) (wg := wg) hn le
      exact ME_mono (m := m) (ρ := ρ) (p1.trans (congrFun (g3 3 (by decide)) i)) (p2.trans (congrFun (congrFun g4 1) i)) (p3.trans (congrFun (g3 4 (by decide)) i)) (p4.trans (congrFun (g3 5 (by decide)) i)) (p5.trans (congrFun (g3 6 (by decide)) i)) g5 (fun i hi => up_lt (by omega)) (hx i le).2.2.2.2.1 (hx i le).2.1
  have hw' : ∀ i, i ≤ n → twf (up τ n t i) := by
    intro i hi
    by_cases c : i = n
    · rw [c, up_n]; exact w
    · rw [up_lt (by omega)]; exact (hx i (by omega)).2.2.1
  have hl : ∀ i, i < n → ∃ l, Lst (fun j => tfg (τ j)) i l ∧ ga (mad ρ0 n k a b v f sz wg) 9 i = nI l := by
    intro i hi
    have : ga (mad ρ0 n k a b v f sz wg) 9 i = ga ρ 9 i := congrFun (g3 9 (by decide)) i
    rw [this]
    exact (hx i hi).2.2.2.2.2.2.2.2.2.2.2
  refine ⟨fun z hz => okm_me (hw' z hz) hz (hx' z hz), ?_⟩
  rintro o ⟨l, q1, q2, q3, q4⟩
  exact ⟨l, q1, m_lst (fun i hi => qm_iff h60 hx' hw' hl hi) q2 q3 q4⟩

