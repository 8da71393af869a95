/-! M asks which aggregates are in use (own rows) -/
def MA (ρ ρ' : St) : Prop := (∀ r, r ≠ 19 → gi ρ' r = gi ρ r) ∧ (∀ r, r ≠ 24 → r ≠ 25 → r ≠ 23 → ga ρ' r = ga ρ r) ∧ (∀ r, gb ρ' r = gb ρ r)
theorem MA.rfl {ρ : St} : MA ρ ρ := ⟨fun _ _ => Eq.refl _, fun _ _ _ _ => Eq.refl _, fun _ => Eq.refl _⟩
theorem MA.trans {a b c : St} (h : MA a b) (k : MA b c) : MA a c := ⟨fun r x => (k.1 r x).trans (h.1 r x), fun r x y z => (k.2.1 r x y z).trans (h.2.1 r x y z), fun r => (k.2.2 r).trans (h.2.2 r)⟩
theorem MO.ma {ρ ρ' : St} (h : MO ρ ρ') : MA ρ ρ' := ⟨h.1, fun r x y _ => h.2.1 r x y, h.2.2⟩
theorem MA.sm {ρ ρ' : St} (h : MA ρ ρ') : SM ρ ρ' :=
  ⟨fun r q => h.1 r (fun z => absurd q (by rw [z]; decide)), fun r q => h.2.1 r (fun z => absurd q (by rw [z]; decide)) (fun z => absurd q (by rw [z]; decide)) (fun z => absurd q (by rw [z]; decide)), fun r q => h.2.2 r⟩
theorem ma_asked {ρ : St} {f : Nat → Int32} : MA ρ (sa ρ 23 f) := ⟨fun _ _ => rfl, fun r _ _ h => by rw [ga_sa, if_neg h], fun _ => rfl⟩
theorem dat_ma {σ ρ ρ' : St} {nt n m ns ng ni no : Nat} {w h : Nat → Nat} {τ : Nat → Tr} (d : Dat σ ρ nt n m ns ng ni no w h τ) (ma : MA ρ ρ') : Dat σ ρ' nt n m ns ng ni no w h τ := d.same SX.rfl ma.sm
theorem agAt {σ ρ : St} {n m k e : Nat} {τ : Nat → Tr} (hE : IvE σ ρ n m τ) (hk : k < m) (he : e < n) : ga ρ 10 k = nI e ↔ ∃ c a, τ e = .mulL c a ∧ c % 8 = k := by
  have n60 := hE.1
  constructor
  · intro q
    obtain ⟨e', h1, h2, c, a, h3, h4⟩ := hE.2.2.2.2.2.2.2 k hk
    have : e = e' := nI_j (by omega) (by omega) (q.symm.trans h2)
    subst this
    exact ⟨c, a, h4, h3⟩
  · rintro ⟨c, a, h1, h2⟩
    have := (hE.2.2.2.2.2.2.1 e he).2.1
    rw [h1] at this
    rw [← h2]
    exact this.2.2.1
def Ask01 (f : Nat → Int32) : Prop := ∀ k, k < 8 → f k = 0 ∨ f k = 1
theorem m_ask39 (N : Nat) (k10 : St → Option (Unit × St)) {σ ρ : St} {n m e : Nat} {τ : Nat → Tr} (hE : IvE σ ρ n m τ) : ∀ (q i fu : Nat) (f : Nat → Int32), i + q = m → q < fu → Ask01 f → ∃ f', Ask01 f' ∧ (∀ k, k < m → (f' k = 1 ↔ (f k = 1 ∨ (i ≤ k ∧ ga ρ 10 k = nI e)))) ∧ ∀ T : St → Option (Unit × St), (∀ s, f_M_ask_39_b N k10 (fun _ _ _ => none) s (nI e) (nI m) = T s → True) → f_M_ask_39 N k10 fu (sa ρ 23 f) (nI e) (nI i) = f_M_ask_39_b N k10 (fun _ _ _ => none) (sa ρ 23 f') (nI e) (nI m) := by
  have m8 := hE.2.1
  intro q
  induction q with
  | zero =>
    intro i fu f hi hfu hf
    obtain ⟨fu, rfl⟩ : ∃ q, fu = q + 1 := ⟨fu - 1, by omega⟩
    have him : i = m := by omega
    subst him
    refine ⟨f, hf, fun k hk => ⟨fun z => Or.inl z, fun z => by rcases z with z | z; exact z; omega⟩, fun T hT => ?_⟩
    show f_M_ask_39_b N k10 (f_M_ask_39 N k10 fu) (sa ρ 23 f) (nI e) (nI i) = _
    unfold f_M_ask_39_b
    rw [show gi (sa ρ 23 f) 2 = nI i from hE.2.2.2.2.2.1, if_pos (nI_le (Nat.le_refl _) (by omega)), if_pos (nI_le (Nat.le_refl _) (by omega))]
  | succ q ih =>
    intro i fu f hi hfu hf
    obtain ⟨fu, rfl⟩ : ∃ q, fu = q + 1 := ⟨fu - 1, by omega⟩
    have st : ∃ v : Int32, (v = 0 ∨ v = 1) ∧ (v = 1 ↔ (f i = 1 ∨ ga ρ 10 i = nI e)) ∧ f_M_ask_39 N k10 (fu + 1) (sa ρ 23 f) (nI e) (nI i) = f_M_ask_39 N k10 fu (sa ρ 23 (upd f i v)) (nI e) (nI (i + 1)) := by
      have e0 : f_M_ask_39 N k10 (fu + 1) (sa ρ 23 f) (nI e) (nI i) = f_M_ask_39_b N k10 (f_M_ask_39 N k10 fu) (sa ρ 23 f) (nI e) (nI i) := rfl
      rw [e0]
      unfold f_M_ask_39_b
      rw [show gi (sa ρ 23 f) 2 = nI m from hE.2.2.2.2.2.1, if_neg (nI_ge (by omega) (by omega)), nI_1]
      simp only [ckb_nI (show i < 8 by omega) (show 8 < 2 ^ 31 by decide), nI_clamp (show i < 2 ^ 31 by omega), nm_eq, wz_sa (show i < 2 ^ 31 by omega) (Or.inl rfl : (0 : Int32) = 0 ∨ (0 : Int32) = 1), wz_sa (show i < 2 ^ 31 by omega) (Or.inr rfl : (1 : Int32) = 0 ∨ (1 : Int32) = 1)]
      rw [show ga (sa ρ 23 f) 23 i = f i by rw [ga_sa, if_pos rfl], show ga (sa ρ 23 f) 10 i = ga ρ 10 i from rfl]
      by_cases c : f i = 0
      · rw [if_pos c]
        by_cases c2 : ga ρ 10 i = nI e
        · rw [if_pos c2]
          exact ⟨1, Or.inr rfl, ⟨fun _ => Or.inr c2, fun _ => rfl⟩, rfl⟩
        · rw [if_neg c2]
          exact ⟨0, Or.inl rfl, ⟨fun z => absurd z (by decide), fun z => by rcases z with z | z; rw [c] at z; exact absurd z (by decide); exact absurd z c2⟩, rfl⟩
      · rw [if_neg c]
        have f1 : f i = 1 := by rcases hf i (by omega) with z | z; exact absurd z c; exact z
        exact ⟨1, Or.inr rfl, ⟨fun _ => Or.inl f1, fun _ => rfl⟩, rfl⟩
    obtain ⟨v, v1, v2, v3⟩ := st
    obtain ⟨f', y1, y2, y3⟩ := ih (i + 1) fu (upd f i v) (by omega) (by omega) (fun k hk => by
      rw [upd_at]
      by_cases ek : k = i
      · rw [if_pos ek]; exact v1
      · rw [if_neg ek]; exact hf k hk)
    refine ⟨f', y1, fun k hk => (y2 k hk).trans ?_, fun T hT => by rw [v3]; exact y3 T hT⟩
    rw [upd_at]
    by_cases ek : k = i
    · rw [if_pos ek, ek]
      constructor
      · rintro (z | ⟨z, -⟩)
        · rcases v2.mp z with u | u
          · exact Or.inl u
          · exact Or.inr ⟨Nat.le_refl _, u⟩
        · omega
      · rintro (z | ⟨-, z⟩)
        · exact Or.inl (v2.mpr (Or.inl z))
        · exact Or.inl (v2.mpr (Or.inr z))
    · rw [if_neg ek]
      constructor
      · rintro (z | ⟨z1, z2⟩)
        · exact Or.inl z
        · exact Or.inr ⟨by omega, z2⟩
      · rintro (z | ⟨z1, z2⟩)
        · exact Or.inl z
        · exact Or.inr ⟨by omega, z2⟩
theorem m_as (N : Nat) (hN : 100 < N) {σ ρ0 : St} {nt n m ns ng ni no : Nat} {w h : Nat → Nat} {τ : Nat → Tr} (d : Dat σ ρ0 nt n m ns ng ni no w h τ) : ∀ (s fu : Nat) (l : List Nat) (ρ : St), MA ρ0 ρ → Ask01 (ga ρ 23) → (∀ e, e ∈ l → e < n) → Sk (ga ρ 24) l → gi ρ 19 = nI l.length → szs τ l ≤ s → s ≤ 60 → s < fu →
    ∃ ρ', f_M_ask_10 N fu ρ = some ((), ρ') ∧ MA ρ0 ρ' ∧ Ask01 (ga ρ' 23) ∧ ∀ k, k < m → (ga ρ' 23 k = 1 ↔ ga ρ 23 k = 1 ∨ ∃ e, e ∈ l ∧ (tab (τ e)).testBit k = true) := by
  intro s
  induction s with
  | zero =>
    intro fu l ρ ma a01 hn hk ho hs h60 hfu
    have : l = [] := by
      cases l with
      | nil => rfl
      | cons x l => have := tsz_pos (τ x); simp only [szs] at hs; omega
    subst this
    obtain ⟨fu, rfl⟩ : ∃ q, fu = q + 1 := ⟨fu - 1, by omega⟩
    have e0 : f_M_ask_10 N (fu + 1) ρ = f_M_ask_10_b N (f_M_ask_10 N fu) ρ := rfl
    rw [e0]
    unfold f_M_ask_10_b
    rw [ho, if_pos (show nI ([] : List Nat).length ≤ 0 by decide)]
    exact ⟨ρ, rfl, ma, a01, fun k hk => ⟨fun z => Or.inl z, fun z => by rcases z with z | ⟨e, he, -⟩; exact z; cases he⟩⟩
  | succ s ih =>
    intro fu l ρ ma a01 hn hk ho hs h60 hfu
    obtain ⟨fu, rfl⟩ : ∃ q, fu = q + 1 := ⟨fu - 1, by omega⟩
    have e0 : f_M_ask_10 N (fu + 1) ρ = f_M_ask_10_b N (f_M_ask_10 N fu) ρ := rfl
    rw [e0]
    unfold f_M_ask_10_b
    cases l with
    | nil =>
      rw [ho, if_pos (show nI ([] : List Nat).length ≤ 0 by decide)]
      exact ⟨ρ, rfl, ma, a01, fun k hk => ⟨fun z => Or.inl z, fun z => by rcases z with z | ⟨e, he, -⟩; exact z; cases he⟩⟩
    | cons e l =>
      simp only [szs] at hs
      have len := szs_len (τ := τ) l
      have ps := tsz_pos (τ e)
      have he : e < n := hn e (List.mem_cons_self)
      have hn' : ∀ e, e ∈ l → e < n := fun e q => hn e (List.mem_cons_of_mem _ q)
      have ho : gi ρ 19 = nI (l.length + 1) := ho
      obtain ⟨hk1, hk2⟩ := hk
      rw [ho, if_neg (show ¬ nI (l.length + 1) ≤ 0 from nI_nle (by omega) (by omega)), nI_pred, nm_eq]
      obtain ⟨ρ1, hρ1⟩ : ∃ ρ1, ρ1 = si ρ 19 (nI l.length) := ⟨_, rfl⟩
      rw [← hρ1]
      have ma1 : MA ρ0 ρ1 := by rw [hρ1]; exact ma.trans mo_open.ma
      have o1 : gi ρ1 19 = nI l.length := by rw [hρ1]; rfl
      have a1 : ga ρ1 24 l.length = nI e := by rw [hρ1]; exact hk1
      have k1 : Sk (ga ρ1 24) l := by rw [hρ1]; exact hk2
      have as1 : ga ρ1 23 = ga ρ 23 := by rw [hρ1]; rfl
      have d1 := dat_ma d ma1
      obtain ⟨hT, hE, hQ⟩ := id d1
      have n60 := hE.1
      have m8 := hE.2.1
      rw [o1, ckb_nI (show l.length < 64 by omega) (by decide), nI_clamp (show l.length < 2 ^ 31 by omega), a1]
      obtain ⟨f', b1, b2, b3⟩ := m_ask39 N (f_M_ask_10 N fu) hE (e := e) m 0 N (ga ρ1 23) (by omega) (by omega) (by rw [as1]; exact a01)
      have b3 := b3 (fun _ => none) (fun _ _ => trivial)
      rw [sa_self] at b3
      have e39 : f_M_ask_39 N (f_M_ask_10 N fu) N ρ1 (nI e) 0 = f_M_ask_39_b N (f_M_ask_10 N fu) (fun _ _ _ => none) (sa ρ1 23 f') (nI e) (nI m) := b3
      rw [e39]
      unfold f_M_ask_39_b
      obtain ⟨ρ2, hρ2⟩ : ∃ ρ2, ρ2 = sa ρ1 23 f' := ⟨_, rfl⟩
      rw [← hρ2]
      have ma2 : MA ρ0 ρ2 := by rw [hρ2]; exact ma1.trans ma_asked
      have o2 : gi ρ2 19 = nI l.length := by rw [hρ2]; exact o1
      have k2 : Sk (ga ρ2 24) l := by rw [hρ2]; exact k1
      have as2 : ga ρ2 23 = f' := by rw [hρ2, ga_sa, if_pos rfl]
      have d2 := dat_ma d ma2
      have hp := d2.2.1.2.2.2.2.2.2.1 e he
      have me := hp.2.1
      have w' := hp.2.2.1
      rw [d2.2.1.2.2.2.2.2.1, if_pos (nI_le (Nat.le_refl _) (by omega)), ckb_nI (show e < 60 by omega) (by decide), nI_clamp (show e < 2 ^ 31 by omega)]
      have fin : ∀ (ρ3 : St) (l2 : List Nat), MA ρ0 ρ3 → ga ρ3 23 = f' → (∀ e, e ∈ l2 → e < n) → Sk (ga ρ3 24) l2 → gi ρ3 19 = nI l2.length → szs τ l2 ≤ s → (∀ k, k < m → ((ga ρ0 10 k = nI e ∨ ∃ q, q ∈ l2 ∧ (tab (τ q)).testBit k = true) ↔ ∃ q, q ∈ e :: l ∧ (tab (τ q)).testBit k = true)) → ∃ ρ', f_M_ask_10 N fu ρ3 = some ((), ρ') ∧ MA ρ0 ρ' ∧ Ask01 (ga ρ' 23) ∧ ∀ k, k < m → (ga ρ' 23 k = 1 ↔ ga ρ 23 k = 1 ∨ ∃ q, q ∈ e :: l ∧ (tab (τ q)).testBit k = true) := by
        intro ρ3 l2 q1 q2 q3 q4 q5 q6 q7
        obtain ⟨ρ', z1, z2, z3, z4⟩ := ih fu l2 ρ3 q1 (by rw [q2]; exact b1) q3 q4 q5 q6 (by omega) (by omega)
        refine ⟨ρ', z1, z2, z3, fun k hk => (z4 k hk).trans ?_⟩
        have ea : ga ρ1 10 = ga ρ0 10 := ma1.2.1 _ (by decide) (by decide) (by decide)
        rw [q2, b2 k hk, as1, ea, ← q7 k hk]
        constructor
        · rintro ((z | ⟨-, z⟩) | z)
          · exact Or.inl z
          · exact Or.inr (Or.inl z)
          · exact Or.inr (Or.inr z)
        · rintro (z | z | z)
          · exact Or.inl (Or.inl z)
          · exact Or.inl (Or.inr ⟨Nat.zero_le _, z⟩)
          · exact Or.inr z
      have ag : ∀ k, k < m → (ga ρ0 10 k = nI e ↔ ∃ c a, τ e = .mulL c a ∧ c % 8 = k) := fun k hk => agAt d.2.1 hk he
      generalize ht : τ e = t at me w' ps ag
      have hs : tsz t + szs τ l ≤ s + 1 := by rw [← ht]; exact hs
      have all : ∀ k, (∃ q, q ∈ e :: l ∧ (tab (τ q)).testBit k = true) ↔ ((tab t).testBit k = true ∨ ∃ q, q ∈ l ∧ (tab (τ q)).testBit k = true) := by
        intro k
        simp only [List.mem_cons]
        constructor
        · rintro ⟨q, rfl | hq, z⟩
          · rw [ht] at z; exact Or.inl z
          · exact Or.inr ⟨q, hq, z⟩
        · rintro (z | ⟨q, hq, z⟩)
          · exact ⟨e, Or.inl rfl, by rw [ht]; exact z⟩
          · exact ⟨q, Or.inr hq, z⟩
      rcases tcases w' with rfl | ⟨q, hq, rfl⟩ | ⟨b, hb, rfl⟩ | ⟨kk, a, b, hkk, rfl⟩ | ⟨kk, a, hkk, rfl⟩ | ⟨c, a, hc, hcq, rfl⟩
      · rw [if_pos (show (12 : Int32) < ga ρ2 3 e by rw [me.1]; decide)]
        refine fin ρ2 l ma2 as2 hn' k2 o2 (by omega) (fun k hk => ?_)
        rw [all, ag k hk]
        simp [tab]
      · rw [if_pos (show (12 : Int32) < ga ρ2 3 e by rw [me.1]; decide)]
        refine fin ρ2 l ma2 as2 hn' k2 o2 (by omega) (fun k hk => ?_)
        rw [all, ag k hk]
        simp [tab]
      · rw [if_pos (show (12 : Int32) < ga ρ2 3 e by rw [me.1]; decide)]
        refine fin ρ2 l ma2 as2 hn' k2 o2 (by omega) (fun k hk => ?_)
        rw [all, ag k hk]
        simp [tab]
      · obtain ⟨m1, m2, i, j, hi, hj, m3, m4, m5, m6⟩ := me
        have sz : tsz (two kk a b) = 1 + tsz a + tsz b := by simp only [tsz]
        rw [m1, if_neg (show ¬ (12 : Int32) < nI kk from nI_nlt (a := 12) (by omega) (by decide)), m3, ckb_nI (show e < 60 by omega) (by decide), m_push (by omega) o2, bd_eq, ckb_nI (show e < 60 by omega) (by decide), show ga (phs ρ2 l.length (nI i)) 3 e = nI kk from m1, m_two, bd_eq, if_pos (show nI kk ≤ (10 : Int32) from nI_le (b := 10) hkk (by decide)), if_neg (show ¬ (1 : Int32) = 0 by decide), ckb_nI (show e < 60 by omega) (by decide)]
        have sj : ga (phs ρ2 l.length (nI i)) 5 e = nI j := m4
        rw [sj, m_push (k := l.length + 1) (by omega) rfl, bd_eq]
        refine fin _ (j :: i :: l) ((ma2.trans mo_phs.ma).trans mo_phs.ma) (by rw [← as2]; rfl) ?_ (Sk_push (l := i :: l) (by simp only [List.length_cons]; omega) (Sk_push (by omega) k2)) rfl ?_ (fun k hk => ?_)
        · intro q hq
          simp only [List.mem_cons] at hq
          rcases hq with rfl | rfl | hq
          · omega
          · omega
          · exact hn' q hq
        · simp only [szs]
          rw [m5, m6]
          omega
        · rw [all, ag k hk]
          simp only [tab, Nat.testBit_or, Bool.or_eq_true, List.mem_cons]
          constructor
          · rintro (⟨c, a', z, -⟩ | ⟨q, rfl | rfl | hq, z⟩)
            · cases z
            · rw [m6] at z; exact Or.inl (Or.inr z)
            · rw [m5] at z; exact Or.inl (Or.inl z)
            · exact Or.inr ⟨q, hq, z⟩
          · rintro ((z | z) | ⟨q, hq, z⟩)
            · exact Or.inr ⟨i, Or.inr (Or.inl rfl), by rw [m5]; exact z⟩
            · exact Or.inr ⟨j, Or.inl rfl, by rw [m6]; exact z⟩
            · exact Or.inr ⟨q, Or.inr (Or.inr hq), z⟩
      · obtain ⟨m1, m2, i, hi, m3, m5⟩ := me
        have sz : tsz (one kk a) = 1 + tsz a := by simp only [tsz]
        rw [m1, if_neg (show ¬ (12 : Int32) < nI kk from nI_nlt (a := 12) (by omega) (by decide)), m3, ckb_nI (show e < 60 by omega) (by decide), m_push (by omega) o2, bd_eq, ckb_nI (show e < 60 by omega) (by decide), show ga (phs ρ2 l.length (nI i)) 3 e = nI kk from m1, m_two, bd_eq, if_neg (show ¬ nI kk ≤ (10 : Int32) from nI_ge (a := 10) (by omega) (by omega)), if_pos rfl]
        refine fin _ (i :: l) (ma2.trans mo_phs.ma) (by rw [← as2]; rfl) ?_ (Sk_push (by omega) k2) rfl ?_ (fun k hk => ?_)
        · intro q hq
          simp only [List.mem_cons] at hq
          rcases hq with rfl | hq
          · omega
          · exact hn' q hq
        · simp only [szs]
          rw [m5]
          omega
        · rw [all, ag k hk]
          simp only [tab, List.mem_cons]
          constructor
          · rintro (⟨c, a', z, -⟩ | ⟨q, rfl | hq, z⟩)
            · cases z
            · rw [m5] at z; exact Or.inl z
            · exact Or.inr ⟨q, hq, z⟩
          · rintro (z | ⟨q, hq, z⟩)
            · exact Or.inr ⟨i, Or.inl rfl, by rw [m5]; exact z⟩
            · exact Or.inr ⟨q, Or.inr hq, z⟩
      · rw [me.1, if_pos (show (12 : Int32) < nI (30 + c / 8 % 8) from nI_lt (a := 12) (by omega) (by omega))]
        refine fin ρ2 l ma2 as2 hn' k2 o2 (by omega) (fun k hk => ?_)
        rw [all, ag k hk]
        simp only [tab, Nat.testBit_two_pow, decide_eq_true_eq]
        constructor
        · rintro (⟨c', a', z, y⟩ | z)
          · injection z with z1 z2
            subst z1
            exact Or.inl y
          · exact Or.inr z
        · rintro (z | z)
          · exact Or.inl ⟨c, a, rfl, z⟩
          · exact Or.inr z

