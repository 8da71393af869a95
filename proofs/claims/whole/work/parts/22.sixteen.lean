/-! every call but run keeps it (own rows) -/
def kE (ρ : St) : St := (ρ.1, ρ.2.1, fun r => if r < 3 then fun _ => 0 else ga ρ r, fun r => if r < 1 then fun _ => 0 else gb ρ r)
theorem ivE_e {σ ρ : St} {n m : Nat} {τ : Nat → Tr} : IvE σ (kE ρ) n m τ = IvE σ ρ n m τ := rfl
theorem ivQ_e {σ ρ : St} {nt n ns ng ni no : Nat} {τ : Nat → Tr} : IvQ σ (kE ρ) nt n τ ns ng ni no = IvQ σ ρ nt n τ ns ng ni no := rfl
theorem ivA_e {σ ρ : St} : IvA σ (kE ρ) = IvA σ ρ := rfl
theorem mwr_1 (f : Nat → Int64) (x : Int32) (o : Nat) : ∀ (d c : Nat) (ρ : St), (mwr f x o d c ρ).1 = ρ.1 ∧ (mwr f x o d c ρ).2.1 = ρ.2.1 := by
  intro d
  induction d with
  | zero => intro c ρ; exact ⟨rfl, rfl⟩
  | succ d ih =>
    intro c ρ
    unfold mwr
    exact ih _ _
theorem kE_min {ρ : St} {f : Nat → Int64} {x : Int32} {t h w : Nat} : kE (min_ ρ f x t h w) = kE ρ := by
  unfold kE
  have e1 : (min_ ρ f x t h w).1 = ρ.1 := (mwr_1 f x _ w 0 ρ).1
  have e2 : (min_ ρ f x t h w).2.1 = ρ.2.1 := (mwr_1 f x _ w 0 ρ).2
  rw [e1, e2]
  congr 3
  · funext r
    by_cases c : r < 3
    · simp only [if_pos c]
    · simp only [if_neg c]
      unfold min_
      rw [ga_wa, if_neg (show ¬ r = 1 from fun z => c (by rw [z]; decide)), mwr_ga _ _ _ _ _ _ _ (fun z => c (by rw [z]; decide))]
  · funext r
    by_cases c : r < 1
    · simp only [if_pos c]
    · simp only [if_neg c]
      unfold min_
      rw [gb_wa, mwr_gb _ _ _ _ _ _ _ (fun z => c (by rw [z]; decide))]
theorem i_insert (N : Nat) (hN : 100 < N) (g : Bool) (σ ρ : St) (x1 : Int32) (x2 x4 x6 x8 : Int64) (x : Int32) (H : Inv g σ ρ) : Fine g (f_Q_insert N σ x1 x2 x4 x6 x8 x) (f_M_insert N ρ x1 x2 x4 x6 x8 x) := by
  obtain ⟨nt, n, m, ns, ng, ni, no, w, h, τ, hT, hE, hQ, hA, hL⟩ := id H
  rcases s_insert N (by omega) hT x1 x2 x4 x6 x8 x with ⟨r, q1, q2⟩ | ⟨t, t1, t2, t3, q1, q2⟩
  · exact ⟨r, σ, ρ, q1, q2, H⟩
  · have hT' := ivT_insert hT t1 t2 t3
    refine ⟨_, _, _, q1, q2, nt, n, m, ns, ng, ni, no, w, _, τ, hT', ?_, ?_, ?_, hL⟩
    · rw [← ivE_e, kE_min, ivE_e]; exact hE
    · rw [← ivQ_e, kE_min, ivQ_e]; exact hQ
    · rw [← ivA_e, kE_min, ivA_e]; exact hA
theorem i_fresh (N : Nat) (g : Bool) (σ ρ : St) (H : Inv g σ ρ) : Fine g (f_Q_fresh N σ) (f_M_fresh N ρ) := by
  obtain ⟨nt, n, m, ns, ng, ni, no, w, h, τ, hT, hE, hQ, hA, hL⟩ := H
  refine ⟨nI n, frX σ, frM ρ, by rw [q_fresh, hE.2.2.1], by rw [m_fresh, hE.2.2.2.1], nt, 0, 0, 0, 0, 0, 0, w, h, τ, hT, ?_, ?_, hA, hL⟩
  · exact ⟨by omega, by omega, rfl, rfl, rfl, rfl, fun e he => by omega, fun s hs => by omega⟩
  · exact ⟨⟨by omega, rfl, rfl, fun k hk => by omega⟩, ⟨by omega, rfl, rfl, fun k hk => by omega⟩, ⟨by omega, rfl, rfl, fun k hk => by omega⟩, ⟨by omega, rfl, rfl, fun k hk => by omega⟩, Or.inl ⟨rfl, rfl⟩, Or.inl ⟨rfl, rfl⟩, 1000, 0, by omega, by omega, rfl, rfl, rfl, rfl, rfl, Or.inl rfl⟩
theorem i_grown {g : Bool} {σ ρ : St} {nt n m ns ng ni no : Nat} {w h : Nat → Nat} {τ : Nat → Tr} {oX oM : Option (Int32 × St)} (hT : IvT σ ρ nt w h) (hQ : IvQ σ ρ nt n τ ns ng ni no) (hA : IvA σ ρ) (hL : IvL σ) (q : Grown σ ρ n m τ oX oM) : Fine g oX oM := by
  obtain ⟨t, k, v, a, b, p, cb, ab, l, km, am, bm, vm, f, sz, wg, l', q1, q2, q3⟩ := q
  exact ⟨_, _, _, q1, q2, nt, n + 1, m, ns, ng, ni, no, w, h, up τ n t, hT, q3, ivQ_up hQ, hA, hL⟩
theorem i_constant (N : Nat) (hN : 100 < N) (g : Bool) (σ ρ : St) (x : Int64) (f : Int32) (hf : f = 0 ∨ f = 1) (H : Inv g σ ρ) : Fine g (f_Q_constant N σ x f) (f_M_constant N ρ x f) := by
  obtain ⟨nt, n, m, ns, ng, ni, no, w, h, τ, hT, hE, hQ, hA, hL⟩ := id H
  rcases s_constant' N (by omega) hE x f hf with ⟨r, q1, q2⟩ | q
  · exact ⟨r, σ, ρ, q1, q2, H⟩
  · exact i_grown hT hQ hA hL q
theorem i_column (N : Nat) (hN : 100 < N) (g : Bool) (σ ρ : St) (x y : Int32) (H : Inv g σ ρ) : Fine g (f_Q_column N σ x y) (f_M_column N ρ x y) := by
  obtain ⟨nt, n, m, ns, ng, ni, no, w, h, τ, hT, hE, hQ, hA, hL⟩ := id H
  rcases s_column N (by omega) hE x y with ⟨r, q1, q2⟩ | q
  · exact ⟨r, σ, ρ, q1, q2, H⟩
  · exact i_grown hT hQ hA hL q
theorem i_op (N : Nat) (hN : 100 < N) (g : Bool) (σ ρ : St) (k x y : Int32) (H : Inv g σ ρ) : Fine g (f_Q_op N σ k x y) (f_M_op N ρ k x y) := by
  obtain ⟨nt, n, m, ns, ng, ni, no, w, h, τ, hT, hE, hQ, hA, hL⟩ := id H
  rcases s_op N (by omega) hE k x y with ⟨r, q1, q2⟩ | q
  · exact ⟨r, σ, ρ, q1, q2, H⟩
  · exact i_grown hT hQ hA hL q
theorem i_aggregate (N : Nat) (hN : 100 < N) (g : Bool) (σ ρ : St) (k x f : Int32) (hf : f = 0 ∨ f = 1) (H : Inv g σ ρ) : Fine g (f_Q_aggregate N σ k x f) (f_M_aggregate N ρ k x f) := by
  obtain ⟨nt, n, m, ns, ng, ni, no, w, h, τ, hT, hE, hQ, hA, hL⟩ := id H
  rcases s_aggregate N (by omega) hE k x f hf with ⟨r, q1, q2⟩ | ⟨hm, q, i, dd, Q⟩
  · exact ⟨r, σ, ρ, q1, q2, H⟩
  · refine i_grown (σ := xag σ m q i dd) (ρ := mag ρ m n) (w := w) (h := h) (ns := ns) (ng := ng) (ni := ni) (no := no) (nt := nt) hT hQ hA hL Q
theorem i_source (N : Nat) (g : Bool) (σ ρ : St) (x1 x2 x3 : Int32) (H : Inv g σ ρ) : Fine g (f_Q_source N σ x1 x2 x3) (f_M_source N ρ x1 x2 x3) := by
  obtain ⟨nt, n, m, ns, ng, ni, no, w, h, τ, hT, hE, hQ, hA, hL⟩ := id H
  obtain ⟨⟨a1, a2, a3, a4⟩, b⟩ := hQ
  rcases s_source N (ivE_ex hE) hT.1 hT.2.1 hT.2.2.1 a1 a2 a3 x1 x2 x3 with ⟨r, q1, q2⟩ | ⟨t, hw, t1, t2, t3, t4, t5, q1, q2⟩
  · exact ⟨r, σ, ρ, q1, q2, H⟩
  · refine ⟨_, _, _, q1, q2, nt, n, m, ns + 1, ng, ni, no, w, h, τ, hT, hE, ⟨⟨by omega, rfl, rfl, fun k hk => ?_⟩, b⟩, hA, hL⟩
    by_cases c : k = ns
    · subst c
      refine ⟨t, hw, t1, t2, t4, upd_n (by omega), upd_n (by omega), upd_n (by omega), upd_n (by omega), ?_⟩
      have on1 : ga (adX σ k t hw x3) 15 k = x3 := upd_n (by omega)
      have on2 : ga (adM ρ k t hw x3) 13 k = x3 := upd_n (by omega)
      rw [on1, on2]
      rcases t5 with ⟨u1, u2⟩ | ⟨u1, j, u2, u3, u4⟩
      · exact Or.inl ⟨u1, u2, u2⟩
      · exact Or.inr ⟨u1, j, u2, u3, u3, (tX hE u2).mp u4⟩
    · obtain ⟨t', hw', h1, h2, h3, h4, h5, h6, h7, h8⟩ := a4 k (by omega)
      have lt : k < ns := by omega
      have o1 : ga (adX σ ns t hw x3) 15 k = ga σ 15 k := upd_lt (by omega) lt
      have o2 : ga (adM ρ ns t hw x3) 13 k = ga ρ 13 k := upd_lt (by omega) lt
      refine ⟨t', hw', h1, h2, h3, (upd_lt (by omega) lt).trans h4, (upd_lt (by omega) lt).trans h5, (upd_lt (by omega) lt).trans h6, (upd_lt (by omega) lt).trans h7, ?_⟩
      rw [o1, o2]
      exact h8
theorem i_condition (N : Nat) (g : Bool) (σ ρ : St) (x1 x2 : Int32) (H : Inv g σ ρ) : Fine g (f_Q_condition N σ x1 x2) (f_M_condition N ρ x1 x2) := by
  obtain ⟨nt, n, m, ns, ng, ni, no, w, h, τ, hT, hE, hQ, hA, hL⟩ := id H
  obtain ⟨q1, q2, q3, q4, q5, q6, q7⟩ := hQ
  rcases s_condition N (ivE_ex hE) x1 x2 with ⟨r, p1, p2⟩ | ⟨j, j1, j2, p1, p2⟩ | ⟨j, j1, j2, p1, p2⟩
  · exact ⟨r, σ, ρ, p1, p2, H⟩
  · exact ⟨_, _, _, p1, p2, nt, n, m, ns, ng, ni, no, w, h, τ, hT, hE, ⟨q1, q2, q3, q4, Or.inr ⟨j, j1, rfl, rfl, (tX hE j1).mp j2⟩, q6, q7⟩, hA, hL⟩
  · exact ⟨_, _, _, p1, p2, nt, n, m, ns, ng, ni, no, w, h, τ, hT, hE, ⟨q1, q2, q3, q4, q5, Or.inr ⟨j, j1, rfl, rfl, (tX hE j1).mp j2⟩, q7⟩, hA, hL⟩
theorem i_group (N : Nat) (g : Bool) (σ ρ : St) (x : Int32) (H : Inv g σ ρ) : Fine g (f_Q_group N σ x) (f_M_group N ρ x) := by
  obtain ⟨nt, n, m, ns, ng, ni, no, w, h, τ, hT, hE, hQ, hA, hL⟩ := id H
  obtain ⟨q1, ⟨b1, b2, b3, b4⟩, q3, q4, q5, q6, q7⟩ := hQ
  rcases s_group N (ivE_ex hE) b1 b2 b3 x with ⟨r, p1, p2⟩ | ⟨j, j1, j2, j3, p1, p2⟩
  · exact ⟨r, σ, ρ, p1, p2, H⟩
  · refine ⟨_, _, _, p1, p2, nt, n, m, ns, ng + 1, ni, no, w, h, τ, hT, hE, ⟨q1, ⟨by omega, rfl, rfl, fun k hk => ?_⟩, q3, q4, q5, q6, q7⟩, hA, hL⟩
    by_cases c : k = ng
    · subst c
      exact ⟨j, j1, upd_n (by omega), upd_n (by omega), fun z => j2 ((tX hE j1).mpr z)⟩
    · obtain ⟨j', h1, h2, h3, h4⟩ := b4 k (by omega)
      exact ⟨j', h1, (upd_lt (by omega) (by omega)).trans h2, (upd_lt (by omega) (by omega)).trans h3, h4⟩
theorem i_item (N : Nat) (g : Bool) (σ ρ : St) (x : Int32) (H : Inv g σ ρ) : Fine g (f_Q_item N σ x) (f_M_item N ρ x) := by
  obtain ⟨nt, n, m, ns, ng, ni, no, w, h, τ, hT, hE, hQ, hA, hL⟩ := id H
  obtain ⟨q1, q2, ⟨b1, b2, b3, b4⟩, ⟨c1, c2, c3, c4⟩, q5, q6, q7⟩ := hQ
  rcases s_item N (ivE_ex hE) b1 b2 b3 x with ⟨r, p1, p2⟩ | ⟨j, j1, j2, j3, p1, p2⟩
  · exact ⟨r, σ, ρ, p1, p2, H⟩
  · refine ⟨_, _, _, p1, p2, nt, n, m, ns, ng, ni + 1, no, w, h, τ, hT, hE, ⟨q1, q2, ⟨by omega, rfl, rfl, fun k hk => ?_⟩, ⟨c1, c2, c3, fun k hk => ?_⟩, q5, q6, q7⟩, hA, hL⟩
    · by_cases c : k = ni
      · subst c
        exact ⟨j, j1, upd_n (by omega), upd_n (by omega), fun z => j2 ((tX hE j1).mpr z)⟩
      · obtain ⟨j', h1, h2, h3, h4⟩ := b4 k (by omega)
        exact ⟨j', h1, (upd_lt (by omega) (by omega)).trans h2, (upd_lt (by omega) (by omega)).trans h3, h4⟩
    · obtain ⟨j', h1, hh⟩ := c4 k hk
      exact ⟨j', by omega, hh⟩
theorem i_order (N : Nat) (g : Bool) (σ ρ : St) (x b : Int32) (hb : b = 0 ∨ b = 1) (H : Inv g σ ρ) : Fine g (f_Q_order N σ x b) (f_M_order N ρ x b) := by
  obtain ⟨nt, n, m, ns, ng, ni, no, w, h, τ, hT, hE, hQ, hA, hL⟩ := id H
  obtain ⟨q1, q2, ⟨b1, b2, b3, b4⟩, ⟨c1, c2, c3, c4⟩, q5, q6, q7⟩ := hQ
  rcases s_order N b1 b2 b3 c1 c2 c3 x b hb with ⟨r, p1, p2⟩ | ⟨j, j1, j3, p1, p2⟩
  · exact ⟨r, σ, ρ, p1, p2, H⟩
  · refine ⟨_, _, _, p1, p2, nt, n, m, ns, ng, ni, no + 1, w, h, τ, hT, hE, ⟨q1, q2, ⟨b1, b2, b3, b4⟩, ⟨by omega, rfl, rfl, fun k hk => ?_⟩, q5, q6, q7⟩, hA, hL⟩
    by_cases c : k = no
    · subst c
      refine ⟨j, j1, upd_n (by omega), upd_n (by omega), ?_, ?_⟩
      · exact (upd_n (f := ga σ 19) (by omega)).trans (upd_n (f := ga ρ 17) (by omega)).symm
      · have : ga (si (wz (wa ρ 16 (nI k) (nI j)) 17 (nI k) b) 8 (nI (k + 1))) 17 k = vp_nar .boolean b := upd_n (by omega)
        rw [this, nar_b hb]
        exact hb
    · obtain ⟨j', h1, h2, h3, h4, h5⟩ := c4 k (by omega)
      have e1 : ga (si (wz (wa ρ 16 (nI no) (nI j)) 17 (nI no) b) 8 (nI (no + 1))) 17 k = ga ρ 17 k := upd_lt (by omega) (by omega)
      have e2 : ga (si (wz (wa σ 18 (nI no) (nI j)) 19 (nI no) b) 8 (nI (no + 1))) 19 k = ga σ 19 k := upd_lt (by omega) (by omega)
      refine ⟨j', h1, (upd_lt (by omega) (by omega)).trans h2, (upd_lt (by omega) (by omega)).trans h3, ?_, ?_⟩
      · rw [e1, e2]; exact h4
      · rw [e1]; exact h5
theorem i_shape (N : Nat) (g : Bool) (σ ρ : St) (x1 x2 x3 : Int32) (hb : x1 = 0 ∨ x1 = 1) (H : Inv g σ ρ) : Fine g (f_Q_shape N σ x1 x2 x3) (f_M_shape N ρ x1 x2 x3) := by
  obtain ⟨nt, n, m, ns, ng, ni, no, w, h, τ, hT, hE, hQ, hA, hL⟩ := id H
  unfold Fine
  rw [q_shape N σ x1 x2 x3 hb, m_shape N ρ x1 x2 x3 hb]
  by_cases c : (0 ≤ x2 ∧ x2 ≤ 1000) ∧ (0 ≤ x3 ∧ x3 ≤ 1000)
  · rw [if_pos c, if_pos c]
    obtain ⟨q1, q2, q3, q4, q5, q6, q7⟩ := hQ
    have nat : ∀ x : Int32, 0 ≤ x ∧ x ≤ 1000 → ∃ k : Nat, k ≤ 1000 ∧ x = nI k := by
      intro x hx
      rcases pk_ix x (n := 1001) (by decide) with z | z | ⟨j, hj, e⟩
      · exact absurd z (Int32.not_lt.mpr hx.1)
      · have z : (1001 : Int32) ≤ x := z
        have z2 := hx.2
        simp only [i32_le] at z z2
        have : (1001 : Int32).toInt = 1001 := by decide
        have : (1000 : Int32).toInt = 1000 := by decide
        omega
      · exact ⟨j, by omega, e⟩
    obtain ⟨kp, k1, rfl⟩ := nat x2 c.1
    obtain ⟨sk, k2, rfl⟩ := nat x3 c.2
    exact ⟨_, _, _, rfl, rfl, nt, n, m, ns, ng, ni, no, w, h, τ, hT, hE, ⟨q1, q2, q3, q4, q5, q6, kp, sk, k1, k2, rfl, rfl, rfl, rfl, rfl, hb⟩, hA, hL⟩
  · rw [if_neg c, if_neg c]
    exact ⟨_, _, _, rfl, rfl, H⟩
theorem i_cell (N : Nat) (g : Bool) (σ ρ : St) (x y : Int32) (H : Inv g σ ρ) : Fine g (f_Q_cell N σ x y) (f_M_cell N ρ x y) := by
  obtain ⟨nt, n, m, ns, ng, ni, no, w, h, τ, hT, hE, hQ, hA, hL⟩ := id H
  obtain ⟨r, q1, q2⟩ := s_cell N hA x y
  exact ⟨r, σ, ρ, q1, q2, H⟩
theorem i_isNull (N : Nat) (g : Bool) (σ ρ : St) (x y : Int32) (H : Inv g σ ρ) : Fine g (f_Q_isNull N σ x y) (f_M_isNull N ρ x y) := by
  obtain ⟨nt, n, m, ns, ng, ni, no, w, h, τ, hT, hE, hQ, hA, hL⟩ := id H
  obtain ⟨r, q1, q2⟩ := s_isNull N hA x y
  exact ⟨r, σ, ρ, q1, q2, H⟩
theorem i_answer (N : Nat) (g : Bool) (σ ρ : St) (x : Int32) (H : Inv g σ ρ) : Fine g (f_Q_answer N σ x) (f_M_answer N ρ x) := by
  obtain ⟨nt, n, m, ns, ng, ni, no, w, h, τ, hT, hE, hQ, hA, hL⟩ := id H
  obtain ⟨r, q1, q2⟩ := s_answer N hA x
  exact ⟨r, σ, ρ, q1, q2, H⟩

