/-! aggregate on both sides (own rows) -/
def xag (σ : St) (m : Nat) (q i dd : Int32) : St := si (wz (wa (wa σ 10 (nI m) q) 11 (nI m) i) 12 (nI m) dd) 2 (nI (m + 1))
def mag (ρ : St) (m n : Nat) : St := si (wa ρ 10 (nI m) (nI n)) 2 (nI (m + 1))
theorem agX_ag {σ ρ : St} {n m : Nat} {τ : Nat → Tr} {q i dd : Int32} (h : IvE σ ρ n m τ) (hm : m < 8) : AgX σ (xag σ m q i dd) n m (m + 1) := by
  refine ⟨h.2.2.1, rfl, fun r h1 h2 h3 => ?_, rfl, fun s hs => ⟨upd_lt (by omega) hs, upd_lt (by omega) hs, upd_lt (by omega) hs⟩⟩
  unfold xag
  rw [ga_si, ga_wz, if_neg h3, ga_wa, if_neg h2, ga_wa, if_neg h1]
theorem agM_ag {σ ρ : St} {n m : Nat} {τ : Nat → Tr} (h : IvE σ ρ n m τ) (hm : m < 8) : AgM ρ (mag ρ m n) n m (m + 1) := by
  refine ⟨h.2.2.2.1, rfl, fun r h1 => ?_, rfl, fun s hs => upd_lt (by omega) hs⟩
  unfold mag
  rw [ga_si, ga_wa, if_neg h1]
theorem x_addAgg {N : Nat} {σ : St} {m q : Nat} (hm : m < 8) (hq : q ≤ 5) (h1 : gi σ 2 = nI m) {dn : Nat} (hd : dn = 0 ∨ dn = 1) (i : Int32) :
    f_E_addAggregate N σ (nI q) i (nI dn) = bd (f_E_add N (xag σ m (nI q) i (if dn = 1 ∧ q ≠ 0 then 1 else 0)) 16 (nI m).toInt64 i (-1)) fun r s => some (r, s) := by
  unfold f_E_addAggregate f_E_addAggregate_40 f_E_addAggregate_41
  simp only [h1, ckb_nI hm (show 8 < 2 ^ 31 by decide), nm_eq]
  have e : ∀ dd : Int32, gi (wz (wa (wa σ 10 (nI m) (nI q)) 11 (nI m) i) 12 (nI m) dd) 2 = nI m := fun _ => h1
  simp only [e, nI_1]
  rcases hd with rfl | rfl
  · rw [if_pos (show nI 0 = 0 from rfl), if_neg (show ¬ ((0 : Nat) = 1 ∧ q ≠ 0) from fun z => by omega)]
    rfl
  · rw [if_neg (show ¬ nI 1 = 0 by decide)]
    by_cases c : q = 0
    · subst c
      rw [if_pos (show nI 0 = 0 from rfl), if_neg (show ¬ ((1 : Nat) = 1 ∧ (0 : Nat) ≠ 0) from fun z => z.2 rfl)]
      rfl
    · rw [if_neg (show ¬ nI q = 0 from fun z => c ((nI_z (by omega)).mp z)), if_pos (show (1 : Nat) = 1 ∧ q ≠ 0 from ⟨rfl, c⟩)]
      rfl
theorem s_aggregate (N : Nat) (hN : 60 < N) {σ ρ : St} {n m : Nat} {τ : Nat → Tr} (h : IvE σ ρ n m τ) (k x f : Int32) (hf : f = 0 ∨ f = 1) :
    (∃ r, f_Q_aggregate N σ k x f = some (r, σ) ∧ f_M_aggregate N ρ k x f = some (r, ρ)) ∨ (m < 8 ∧ ∃ q i dd, Grown (xag σ m q i dd) (mag ρ m n) n (m + 1) τ (f_Q_aggregate N σ k x f) (f_M_aggregate N ρ k x f)) := by
  have h60 := h.1
  have h8 := h.2.1
  have hE := ivE_ex h
  have hp := h.2.2.2.2.2.2.1
  unfold f_Q_aggregate f_M_aggregate
  rcases ex_at hE x with ⟨a1, a2⟩ | ⟨i, hi, rfl⟩
  · rw [x_has_no a1, m_has_no a2, bd_eq, bd_eq, if_pos rfl, if_pos rfl]
    exact Or.inl ⟨_, rfl, rfl⟩
  · rw [x_has_yes h.2.2.1 hi h60, m_has_yes h.2.2.2.1 hi h60, bd_eq, bd_eq, if_neg (show ¬ (1 : Int32) = 0 by decide), if_neg (show ¬ (1 : Int32) = 0 by decide), m_within32 N ρ k 0 5 rfl rfl, bd_eq, ite10]
    rcases pk_ix k (n := 6) (by decide) with c | c | ⟨q, hq, rfl⟩
    · rw [if_pos c, if_neg (show ¬ ((0 : Int32) ≤ k ∧ k ≤ 5) from fun z => absurd c (Int32.not_lt.mpr z.1))]
      exact Or.inl ⟨_, rfl, rfl⟩
    · have c' : (6 : Int32) ≤ k := c
      have c0 : ¬ k < 0 := fun z => by simp only [i32_le, i32_lt] at *; have : (6 : Int32).toInt = 6 := by decide
                                       have : (0 : Int32).toInt = 0 := by decide
                                       omega
      have c5 : ¬ k ≤ 5 := fun z => by simp only [i32_le] at *; have : (6 : Int32).toInt = 6 := by decide
                                       have : (5 : Int32).toInt = 5 := by decide
                                       omega
      rw [if_neg c0, if_neg c5, if_neg (show ¬ ((0 : Int32) ≤ k ∧ k ≤ 5) from fun z => c5 z.2)]
      exact Or.inl ⟨_, rfl, rfl⟩
    · have q5 : nI q ≤ (5 : Int32) := nI_le (b := 5) (by omega) (by decide)
      rw [if_neg (show ¬ nI q < 0 from nI_pos (by omega)), if_pos q5, if_pos (show (0 : Int32) ≤ nI q ∧ nI q ≤ 5 from ⟨nI_pos' (by omega), q5⟩)]
      simp only [x_tr (show i < 60 by omega), m_tr (show i < 60 by omega), bd_eq, ite10]
      have ex := tX h hi
      have em := tM h hi
      by_cases c1 : tru (τ i)
      · rw [if_pos (ex.mpr c1), if_pos (em.mpr c1)]
        exact Or.inl ⟨_, rfl, rfl⟩
      · rw [if_neg (fun z => c1 (ex.mp z)), if_neg (fun z => c1 (em.mp z))]
        have ab := (hp i hi).2.2.2.2.2.2.2.2.1
        have wa' := (hp i hi).2.2.2.2.2.2.2.2.2.1
        have s1 := (hp i hi).2.2.2.2.2.2.1
        have z1 := (hp i hi).2.2.2.1
        have r1 : RF τ n (nI i) (some (τ i)) := ⟨i, hi, rfl, rfl⟩
        simp only [ckb_nI (show i < 60 by omega) (show 60 < 2 ^ 31 by decide), nI_clamp (show i < 2 ^ 31 by omega), ab, wa', s1, x_room (q := none) h r1 rfl, bd_eq, ite10, h.2.2.2.1, h.2.2.2.2.1, h.2.2.2.2.2.1]
        have tabs : ∀ {t : Tr}, twf t → tab t < 2 ^ 31 := by
          intro t w
          have : ∀ t : Tr, tab t < 2 ^ 8 := by
            intro t
            induction t using tab.induct with
            | case1 k a b i1 i2 => simp only [tab]; exact Nat.or_lt_two_pow i1 i2
            | case2 c a => simp only [tab]; exact Nat.pow_lt_pow_right (by decide) (by omega)
            | case3 a k i1 => simp only [tab]; exact i1
            | case4 t h1 h2 h3 => unfold tab; split <;> first | (exfalso; simp_all; done) | decide
          have := this t
          omega
        by_cases c2 : tab (τ i) = 0
        · rw [if_pos (show nI (tab (τ i)) = 0 by rw [c2]; rfl), if_pos (show (if tab (τ i) = 0 then (0 : Int32) else 1) = 0 by rw [if_pos c2])]
          by_cases cm : m < 8
          · rw [if_neg (show ¬ (8 : Int32) ≤ nI m from nI_ge (b := 8) cm (by decide)), if_neg (show ¬ nI m = (8 : Int32) from fun z => by have := (nI_eq (b := 8) (by omega) (by decide)).mp z; omega)]
            rw [show (1 : Int32) + nI (tsz (τ i)) = nI (1 + tsz (τ i)) by rw [show (1 : Int32) = nI 1 from rfl, nI_add]]
            by_cases c : n < 60
            · rw [if_neg (show ¬ nI n = (60 : Int32) from fun z => by have := (nI_eq (b := 60) (by omega) (by decide)).mp z; omega)]
              by_cases d : 1 + tsz (τ i) ≤ 60
              · right
                refine ⟨cm, ?_⟩
                rw [if_pos (show n < 60 ∧ 1 + os tsz (some (τ i)) + os tsz none ≤ 60 from ⟨c, d⟩), if_pos (show nI (1 + tsz (τ i)) ≤ (60 : Int32) from nI_le (b := 60) d (by decide)), ckb_nI cm (by decide), nm_eq, nm_eq]
                have eg : gi (wa ρ 10 (nI m) (nI n)) 2 = nI m := h.2.2.2.2.2.1
                rw [eg, nI_1]
                obtain ⟨dn, hd, rfl⟩ : ∃ dn : Nat, (dn = 0 ∨ dn = 1) ∧ f = nI dn := by
                  rcases hf with rfl | rfl
                  · exact ⟨0, Or.inl rfl, rfl⟩
                  · exact ⟨1, Or.inr rfl, rfl⟩
                rw [x_addAgg cm (by omega) h.2.2.2.2.1 hd]
                have e30 : (30 : Int32) + nI q = nI (30 + q) := by rw [show (30 : Int32) = nI 30 from rfl, nI_add]
                rw [e30]
                obtain ⟨C, hC⟩ : ∃ C, C = 64 * dn + 8 * q + m := ⟨_, rfl⟩
                have C1 : C % 8 = m := by omega
                have C2 : C / 8 % 8 = q := by omega
                have C3 : C / 64 = dn := by omega
                have wf : twf (agg C (τ i)) := ⟨by omega, by omega, c1, c2, (hp i hi).2.2.1⟩
                have e1 : (1 : Int32) + ga (mag ρ m n) 7 i = nI (tsz (agg C (τ i))) := by
                  show (1 : Int32) + ga ρ 7 i = _
                  rw [s1, show (1 : Int32) = nI 1 from rfl, nI_add]; rfl
                have hdd : ∀ C' x, agg C (τ i) = .mulL C' x → C' = C ∧ x = τ i := fun C' x z => by injection z with z1 z2; exact ⟨z1.symm, z2.symm⟩
                obtain ⟨l, l', f1, f2, f3⟩ := grow N hN (σ0 := xag σ m (nI q) (nI i) (if dn = 1 ∧ q ≠ 0 then 1 else 0)) (ρ0 := mag ρ m n) (t := agg C (τ i)) (k := 16) (v := (nI m).toInt64) (a := nI i) (b := -1) (km := nI (30 + q)) (am := nI i) (bm := 0) (vm := 0) (f := nI dn) (sz := 1 + ga (mag ρ m n) 7 i) (wg := 1) h c (agX_ag h cm) (agM_ag h cm) wf (by simp only [tsz]; omega) (by omega) (Or.inr ⟨rfl, upd_n (by omega), C, τ i, rfl⟩) rfl (by show _ = (nI (C % 8)).toInt64; rw [C1]) r1 rfl
                  (by
                    intro C' x z
                    obtain ⟨rfl, -⟩ := hdd C' x z
                    rw [C1, C2, C3]
                    refine ⟨rfl, upd_n (by omega), (upd_n (f := ga σ 12) (by omega)).trans ?_, upd_n (by omega)⟩
                    rw [nar_b]
                    by_cases y : dn = 1 ∧ q ≠ 0
                    · rw [if_pos y]; exact Or.inr rfl
                    · rw [if_neg y]; exact Or.inl rfl)
                  (by
                    obtain ⟨r1, r2, r3, r4, r5, r6, r7⟩ := mad_n (ρ := mag ρ m n) (k := nI (30 + q)) (a := nI i) (b := 0) (v := 0) (f := nI dn) (sz := 1 + ga (mag ρ m n) 7 i) (wg := 1) c
                    refine ⟨by rw [C2]; exact r1, ?_, ?_, i, hi, r3, up_lt hi⟩
                    · rw [C3, r5, nar_b]
                      rcases hd with rfl | rfl
                      · exact Or.inl rfl
                      · exact Or.inr rfl
                    · rw [C1]; exact upd_n (by omega)) e1 (by rw [if_neg]; show ¬ 2 ^ (C % 8) = 0; exact Nat.ne_of_gt (Nat.two_pow_pos _)) (f_M_make N (mag ρ m n) (nI (30 + q)) (nI i) 0 0 (nI dn)) (fun ok => m_make_agg N hN h.2.2.2.1 c hi (by omega) ok)
                refine ⟨nI q, nI i, (if dn = 1 ∧ q ≠ 0 then 1 else 0), _, _, _, _, _, _, _, _, _, _, _, _, _, _, _, _, l', by rw [f1, bd_eq, bd_eq], ?_, f3⟩
                show bd (f_M_make N (mag ρ m n) (nI (30 + q)) (nI i) 0 0 (nI dn)) _ = _
                rw [f2, bd_eq]
              · left
                rw [if_neg (show ¬ (n < 60 ∧ 1 + os tsz (some (τ i)) + os tsz none ≤ 60) from fun z => d z.2), if_neg (show ¬ nI (1 + tsz (τ i)) ≤ (60 : Int32) from nI_ge (a := 60) (by omega) (by omega))]
                exact ⟨-104, rfl, rfl⟩
            · left
              have : n = 60 := by omega
              rw [if_neg (show ¬ (n < 60 ∧ 1 + os tsz (some (τ i)) + os tsz none ≤ 60) from fun z => c z.1), if_pos (show nI n = (60 : Int32) by rw [this]; rfl)]
              exact ⟨-104, rfl, rfl⟩
          · left
            have : m = 8 := by omega
            subst this
            rw [if_pos (show (8 : Int32) ≤ nI 8 by decide), if_pos (show nI 8 = (8 : Int32) from rfl)]
            refine ⟨-104, rfl, ?_⟩
            by_cases c : nI n = 60
            · rw [if_pos c]
            · rw [if_neg c]
        · rw [if_neg (show ¬ nI (tab (τ i)) = 0 from fun z => c2 ((nI_z (tabs (hp i hi).2.2.1)).mp z)), if_neg (show ¬ (if tab (τ i) = 0 then (0 : Int32) else 1) = 0 by rw [if_neg c2]; decide)]
          exact Or.inl ⟨_, rfl, rfl⟩

