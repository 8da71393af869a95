/-! what an aggregate comes to, in the reference (own rows) -/
theorem m_an (N : Nat) (hN : 100 < N) {σ ρ : St} {n m e c : Nat} {a : Tr} {τ : Nat → Tr} (hE : IvE σ ρ n m τ) (he : e < n) (ht : τ e = .mulL c a) : f_M_aggregateNumber N ρ (nI e) = some (nI (c % 8), ρ) := by
  have n60 := hE.1
  have m8 := hE.2.1
  have sm : c % 8 < m := (hE.2.2.2.2.2.2.1 e he).2.2.2.2.1 c a ht
  have key : ∀ (d i fu : Nat) (x : Int32), i + d = m → d < fu → (c % 8 < i → x = nI (c % 8)) → f_M_aggregateNumber_4 N fu ρ (nI e) x (nI i) = some (nI (c % 8), ρ) := by
    intro d
    induction d with
    | zero =>
      intro i fu x hi hfu hx
      obtain ⟨fu, rfl⟩ : ∃ q, fu = q + 1 := ⟨fu - 1, by omega⟩
      show f_M_aggregateNumber_4_b N (f_M_aggregateNumber_4 N fu) ρ (nI e) x (nI i) = _
      unfold f_M_aggregateNumber_4_b
      rw [hE.2.2.2.2.2.1, if_pos (nI_le (show m ≤ i by omega) (by omega)), hx (by omega)]
    | succ d ih =>
      intro i fu x hi hfu hx
      obtain ⟨fu, rfl⟩ : ∃ q, fu = q + 1 := ⟨fu - 1, by omega⟩
      show f_M_aggregateNumber_4_b N (f_M_aggregateNumber_4 N fu) ρ (nI e) x (nI i) = _
      unfold f_M_aggregateNumber_4_b
      have ag := agAt hE (show i < m by omega) he
      rw [hE.2.2.2.2.2.1, if_neg (nI_ge (show i < m by omega) (by omega)), ckb_nI (show i < 8 by omega) (by decide), nI_clamp (show i < 2 ^ 31 by omega), nI_1]
      by_cases q : ga ρ 10 i = nI e
      · rw [if_pos q]
        obtain ⟨c', a', z1, z2⟩ := ag.mp q
        rw [ht] at z1
        cases z1
        exact ih (i + 1) fu _ (by omega) (by omega) (fun _ => by rw [z2])
      · rw [if_neg q]
        refine ih (i + 1) fu _ (by omega) (by omega) (fun z => hx ?_)
        by_cases w : c % 8 = i
        · exact absurd (ag.mpr ⟨c, a, ht, w⟩) q
        · omega
  exact key m 0 N (-1) (by omega) (by omega) (fun z => by omega)
theorem comb3 {t v : Int64} : (if 0 ≤ lg_cmp v t then t else v) = comb 3 t v := by
  have e : comb 3 t v = if v < t then v else t := rfl
  rw [e]
  by_cases c : v < t
  · rw [if_pos c, if_neg (show ¬ 0 ≤ lg_cmp v t from fun z => absurd c (Int64.not_lt.mpr (cmp_ge.mp z)))]
  · rw [if_neg c, if_pos (cmp_ge.mpr (Int64.not_lt.mp c))]
theorem comb4 {t v : Int64} : (if lg_cmp v t ≤ 0 then t else v) = comb 4 t v := by
  have e : comb 4 t v = if v < t then t else v := rfl
  rw [e]
  by_cases c : v < t
  · rw [if_pos c, if_pos (cmp_le.mpr (Int64.le_of_lt c))]
  · rw [if_neg c]
    by_cases c2 : lg_cmp v t ≤ 0
    · rw [if_pos c2]
      exact Int64.le_antisymm (Int64.not_lt.mp c) (cmp_le.mp c2)
    · rw [if_neg c2]
/-- M's going through the rows of a group -/
theorem m_agl (N : Nat) (hN : 600 < N) {ρ : St} {R q s κ e : Nat} {D : Nat → Bool} {gr : Nat → Nat} {arg : Nat → Nat → Option Int64} (hR : R ≤ 512) (hq : q < 2 ^ 31) (hs : s < 8) (h5 : κ ≤ 5) (ht : gi ρ 16 = nI R) (hn : gi ρ 18 = nI q) (hg : ∀ r, r < R → gr r < 2 ^ 31 ∧ ga ρ 20 r = nI (gr r)) (he : e < 60) (ha : ga ρ 10 s = nI e) (hD : ¬ κ = 0 → (ga ρ 6 e = 0 ↔ D s = false)) (hc : ¬ κ = 0 → ∀ r, r < R → enc (ga ρ 21 (8 * r + s)) (gb ρ 3 (8 * r + s)) (arg r s)) (h0 : κ = 0 → D s = false ∧ ∀ r, r < R → arg r s = some 0) :
    ∀ (d r fu : Nat) (x4 x6 x8 x10 x12 : Int64), r + d = R → d < fu → (κ = 0 → x4 = cI (acc (fun _ => κ) D gr arg q s r).1) → (¬ κ = 0 → x6 = cI (acc (fun _ => κ) D gr arg q s r).1 ∧ x8 = (acc (fun _ => 2) D gr arg q s r).2 ∧ (¬ (acc (fun _ => κ) D gr arg q s r).1 = 0 → x10 = (acc (fun _ => 3) D gr arg q s r).2 ∧ x12 = (acc (fun _ => 4) D gr arg q s r).2)) →
    ∃ x fl, f_M_giveAggregate_34 N fu ρ (nI s) (nI κ) x4 x6 x8 x10 x12 (nI r) = (bd (f_M_give N ρ x fl) fun _ s4 => some ((), s4)) ∧ ((aggV κ (acc (fun _ => κ) D gr arg q s R) = none ∧ fl = 1) ∨ (aggV κ (acc (fun _ => κ) D gr arg q s R) = some x ∧ fl = 0)) := by
  intro d
  induction d with
  | zero =>
    intro r fu x4 x6 x8 x10 x12 hr hfu I0 I1
    obtain ⟨fu, rfl⟩ : ∃ q, fu = q + 1 := ⟨fu - 1, by omega⟩
    have e1 : r = R := by omega
    subst e1
    have e0 : f_M_giveAggregate_34 N (fu + 1) ρ (nI s) (nI κ) x4 x6 x8 x10 x12 (nI r) = f_M_giveAggregate_34_b N (f_M_giveAggregate_34 N fu) ρ (nI s) (nI κ) x4 x6 x8 x10 x12 (nI r) := rfl
    rw [e0]
    unfold f_M_giveAggregate_34_b f_M_giveAggregate_195 f_M_giveAggregate_178 f_M_giveAggregate_241
    rw [ht, if_pos (nI_le (Nat.le_refl _) (by omega))]
    have cl : (acc (fun _ => κ) D gr arg q s r).1 < 600 := by have := acc_le (K := fun _ => κ) (D := D) (gr := gr) (arg := arg) (q := q) (s := s) r; omega
    by_cases k2 : 2 ≤ κ
    · rw [if_pos (show (2 : Int32) ≤ nI κ from nI_le (a := 2) k2 (by omega))]
      obtain ⟨y1, y2, y3⟩ := I1 (by omega)
      have z1 : lg_cmp x6 0 = 0 ↔ (acc (fun _ => κ) D gr arg q s r).1 = 0 := by rw [cmp_eq, y1]; exact cI_0 _ cl
      by_cases c : (acc (fun _ => κ) D gr arg q s r).1 = 0
      · rw [if_pos (z1.mpr c), if_neg (show ¬ (1 : Int32) = 0 by decide)]
        refine ⟨0, 1, rfl, Or.inl ⟨?_, rfl⟩⟩
        unfold aggV
        rw [if_neg (by omega), if_pos c]
      · rw [if_neg (fun z => c (z1.mp z)), if_pos rfl]
        obtain ⟨w1, w2⟩ := y3 c
        have kq : ∀ j, j < 6 → (nI κ = nI j ↔ κ = j) := fun j hj => nI_eq (by omega) (by omega)
        have av : aggV κ (acc (fun _ => κ) D gr arg q s r) = if κ = 5 then some ((acc (fun _ => κ) D gr arg q s r).2 / cI (acc (fun _ => κ) D gr arg q s r).1) else some (acc (fun _ => κ) D gr arg q s r).2 := by
          unfold aggV
          rw [if_neg (show ¬ κ < 2 by omega), if_neg c]
        rw [av]
        by_cases a2 : κ = 2
        · subst a2
          rw [if_pos (show nI 2 = 2 from rfl)]
          exact ⟨x8, 0, rfl, Or.inr ⟨by rw [if_neg (by decide), y2], rfl⟩⟩
        · rw [if_neg (show ¬ nI κ = 2 from fun z => a2 ((kq 2 (by decide)).mp z))]
          by_cases a3 : κ = 3
          · subst a3
            rw [if_pos (show nI 3 = 3 from rfl)]
            exact ⟨x10, 0, rfl, Or.inr ⟨by rw [if_neg (by decide), w1], rfl⟩⟩
          · rw [if_neg (show ¬ nI κ = 3 from fun z => a3 ((kq 3 (by decide)).mp z))]
            by_cases a4 : κ = 4
            · subst a4
              rw [if_pos (show nI 4 = 4 from rfl)]
              exact ⟨x12, 0, rfl, Or.inr ⟨by rw [if_neg (by decide), w2], rfl⟩⟩
            · have a5 : κ = 5 := by omega
              rw [if_neg (show ¬ nI κ = 4 from fun z => a4 ((kq 4 (by decide)).mp z)), ckzl_ne (fun z => c ((cI_0 _ cl).mp (by rw [← y1]; exact z)))]
              refine ⟨x8 / x6, 0, rfl, Or.inr ⟨?_, rfl⟩⟩
              rw [if_pos a5, y1, y2, acc_K (K := fun _ => κ) (K' := fun _ => 2) (fun t v => by subst a5; rfl)]
    · rw [if_neg (show ¬ (2 : Int32) ≤ nI κ from nI_ge (b := 2) (by omega) (by decide))]
      have av : aggV κ (acc (fun _ => κ) D gr arg q s r) = some (cI (acc (fun _ => κ) D gr arg q s r).1) := by
        unfold aggV
        rw [if_pos (show κ < 2 by omega)]
      rw [av]
      by_cases k0 : κ = 0
      · rw [if_pos (show nI κ = 0 by rw [k0]; rfl)]
        exact ⟨x4, 0, rfl, Or.inr ⟨by rw [I0 k0], rfl⟩⟩
      · rw [if_neg (show ¬ nI κ = 0 from fun z => k0 ((nI_z (by omega)).mp z))]
        exact ⟨x6, 0, rfl, Or.inr ⟨by rw [(I1 k0).1], rfl⟩⟩
  | succ d ih =>
    intro r fu x4 x6 x8 x10 x12 hr hfu I0 I1
    obtain ⟨fu, rfl⟩ : ∃ q, fu = q + 1 := ⟨fu - 1, by omega⟩
    have e0 : f_M_giveAggregate_34 N (fu + 1) ρ (nI s) (nI κ) x4 x6 x8 x10 x12 (nI r) = f_M_giveAggregate_34_b N (f_M_giveAggregate_34 N fu) ρ (nI s) (nI κ) x4 x6 x8 x10 x12 (nI r) := rfl
    rw [e0]
    unfold f_M_giveAggregate_34_b f_M_giveAggregate_109 f_M_giveAggregate_116 f_M_giveAggregate_133 f_M_giveAggregate_140
    have rR : r < R := by omega
    have ng := nI_eq (hg r rR).1 hq
    rw [ht, if_neg (nI_ge rR (by omega)), ckb_nI (show r < 520 by omega) (by decide), nI_clamp (show r < 2 ^ 31 by omega), hn, (hg r rR).2, nI_1]
    have cl : (acc (fun _ => κ) D gr arg q s r).1 < 600 := by have := acc_le (K := fun _ => κ) (D := D) (gr := gr) (arg := arg) (q := q) (s := s) r; omega
    have unch : ∀ y4, ¬ (gr r = q ∧ cntB D gr arg r s = true) → (κ = 0 → y4 = x4) → ∃ x fl, f_M_giveAggregate_34 N fu ρ (nI s) (nI κ) y4 x6 x8 x10 x12 (nI (r + 1)) = (bd (f_M_give N ρ x fl) fun _ s4 => some ((), s4)) ∧ ((aggV κ (acc (fun _ => κ) D gr arg q s R) = none ∧ fl = 1) ∨ (aggV κ (acc (fun _ => κ) D gr arg q s R) = some x ∧ fl = 0)) := by
      intro y4 hu hy
      have e : ∀ K, acc K D gr arg q s (r + 1) = acc K D gr arg q s r := fun K => by show (if _ then _ else _) = _; rw [if_neg hu]
      refine ih (r + 1) fu y4 x6 x8 x10 x12 (by omega) (by omega) ?_ ?_
      · intro z; rw [e, hy z]; exact I0 z
      · intro z; rw [e, e, e, e]; exact I1 z
    by_cases c : gr r = q
    · rw [if_pos (show nI (gr r) = nI q by rw [c])]
      by_cases k0 : κ = 0
      · rw [if_pos (show nI κ ≤ 0 by rw [k0]; decide)]
        obtain ⟨z1, z2⟩ := h0 k0
        have cn : cntB D gr arg r s = true := by
          rw [cnt_iff (z2 r rR)]
          exact Or.inl z1
        refine ih (r + 1) fu _ x6 x8 x10 x12 (by omega) (by omega) (fun _ => ?_) (fun z => absurd k0 z)
        rw [acc_cnt c cn]
        show x4 + 1 = cI ((acc (fun _ => κ) D gr arg q s r).1 + 1)
        rw [← cI_1 _ cl, I0 k0]
      · rw [if_neg (show ¬ nI κ ≤ 0 from nI_ge (a := 0) (by omega) (by omega))]
        obtain ⟨b, b1, b2, b3⟩ := m_counts N hN (ρ := ρ) (D := D) (gr := gr) (arg := arg) (r := r) (s := s) (e := e) (by omega) hs he ha (hD k0) (fun i hi => hg i (by omega)) (fun i hi => hc k0 i (by omega))
        rw [b1, bd_eq]
        by_cases cb : b = 0
        · rw [if_pos cb]
          exact unch _ (fun z => by have := b3.mpr z.2; rw [cb] at this; exact absurd this (by decide)) (fun z => absurd z k0)
        · have b11 : b = 1 := by rcases b2 with z | z; exact absurd z cb; exact z
          have cn := b3.mp b11
          obtain ⟨v, hv⟩ := cnt_some cn
          have ev : gb ρ 3 (8 * r + s) = v := by
            have := hc k0 r rR
            rw [hv] at this
            rcases this with z | z
            · cases z.1
            · cases z.1; rfl
          rw [if_neg cb, nI_8']
          simp only [ckb_nI (show 8 * r + s < 4160 by omega) (show 4160 < 2 ^ 31 by decide), nI_clamp (show 8 * r + s < 2 ^ 31 by omega), ev]
          obtain ⟨y1, y2, y3⟩ := I1 k0
          have z1 : lg_cmp x6 0 = 0 ↔ (acc (fun _ => κ) D gr arg q s r).1 = 0 := by rw [cmp_eq, y1]; exact cI_0 _ cl
          have fs : ∀ j, (acc (fun _ => j) D gr arg q s r).1 = (acc (fun _ => κ) D gr arg q s r).1 := fun j => acc_fst r
          -- the next step, whatever the two numbers are
          have nx : ∀ y10 y12, y10 = (acc (fun _ => 3) D gr arg q s (r + 1)).2 → y12 = (acc (fun _ => 4) D gr arg q s (r + 1)).2 → ∃ x fl, f_M_giveAggregate_34 N fu ρ (nI s) (nI κ) (x4 + 1) (x6 + 1) (x8 + v) y10 y12 (nI (r + 1)) = (bd (f_M_give N ρ x fl) fun _ s4 => some ((), s4)) ∧ ((aggV κ (acc (fun _ => κ) D gr arg q s R) = none ∧ fl = 1) ∨ (aggV κ (acc (fun _ => κ) D gr arg q s R) = some x ∧ fl = 0)) := by
            intro y10 y12 q1 q2
            refine ih (r + 1) fu _ _ _ _ _ (by omega) (by omega) (fun z => absurd z k0) (fun _ => ⟨?_, ?_, fun _ => ⟨q1, q2⟩⟩)
            · rw [acc_cnt c cn]
              show x6 + 1 = cI ((acc (fun _ => κ) D gr arg q s r).1 + 1)
              rw [← cI_1 _ cl, y1]
            · rw [acc_sum (Or.inl rfl) c cn hv, y2]
          have a3 : (acc (fun _ => 3) D gr arg q s (r + 1)).2 = if (acc (fun _ => κ) D gr arg q s r).1 = 0 then v else comb 3 (acc (fun _ => 3) D gr arg q s r).2 v := by rw [acc_cnt c cn, fs, hv]; rfl
          have a4 : (acc (fun _ => 4) D gr arg q s (r + 1)).2 = if (acc (fun _ => κ) D gr arg q s r).1 = 0 then v else comb 4 (acc (fun _ => 4) D gr arg q s r).2 v := by rw [acc_cnt c cn, fs, hv]; rfl
          by_cases cz : (acc (fun _ => κ) D gr arg q s r).1 = 0
          · rw [if_pos cz] at a3 a4
            simp only [if_pos (z1.mpr cz)]
            exact nx v v a3.symm a4.symm
          · rw [if_neg cz] at a3 a4
            obtain ⟨w1, w2⟩ := y3 cz
            rw [← w1, ← comb3] at a3
            rw [← w2, ← comb4] at a4
            simp only [if_neg (fun z => cz (z1.mp z))]
            by_cases c3 : 0 ≤ lg_cmp v x10
            · rw [if_pos c3] at a3 ⊢
              by_cases c4 : lg_cmp v x12 ≤ 0
              · rw [if_pos c4] at a4 ⊢
                exact nx x10 x12 a3.symm a4.symm
              · rw [if_neg c4] at a4 ⊢
                exact nx x10 v a3.symm a4.symm
            · rw [if_neg c3] at a3 ⊢
              by_cases c4 : lg_cmp v x12 ≤ 0
              · rw [if_pos c4] at a4 ⊢
                exact nx v x12 a3.symm a4.symm
              · rw [if_neg c4] at a4 ⊢
                exact nx v v a3.symm a4.symm
    · rw [if_neg (fun z => c (ng.mp z))]
      exact unch _ (fun z => c z.1) (fun _ => rfl)

