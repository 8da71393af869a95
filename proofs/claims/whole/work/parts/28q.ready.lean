/-! M is ready to go through rows (own rows) -/
def mGo (N : Nat) (s : St) : Option (Int32 × St) := bd (f_M_goFirst N (si (si (si s 16 0) 17 0) 18 (-1))) fun _ s12 => if gi s12 15 = 0 then f_M_run_301 N s12 else if gi s12 14 = 0 then (bd (f_M_goThroughGroups N s12) fun _ s22 => f_M_run_301 N s22) else f_M_run_301 N s12
theorem m_ask (N : Nat) (hN : 100 < N) {σ ρ : St} {nt n m ns ng ni no j : Nat} {w h : Nat → Nat} {τ : Nat → Tr} (d : Dat σ ρ nt n m ns ng ni no w h τ) (hj : j < n) (a01 : Ask01 (ga ρ 23)) : ∃ ρ', f_M_ask N ρ (nI j) = some ((), ρ') ∧ MA ρ ρ' ∧ Ask01 (ga ρ' 23) ∧ ∀ k, k < m → (ga ρ' 23 k = 1 ↔ ga ρ 23 k = 1 ∨ (tab (τ j)).testBit k = true) := by
  have hp := d.2.1.2.2.2.2.2.2.1 j hj
  have e0 : f_M_ask N ρ (nI j) = f_M_ask_10 N N (phs (si ρ 19 0) 0 (nI j)) := by
    unfold f_M_ask
    rw [nm_eq, m_push (k := 0) (by decide) (show gi (si ρ 19 0) 19 = nI 0 from rfl), bd_eq]
  rw [e0]
  have mo1 : MA ρ (phs (si ρ 19 0) 0 (nI j)) := (mo_open.trans mo_phs).ma
  obtain ⟨ρ', z1, z2, z3, z4⟩ := m_as N hN d 60 N [j] (phs (si ρ 19 0) 0 (nI j)) mo1 a01 (fun e q => by simp only [List.mem_singleton] at q; omega) (Sk_push (l := []) (by decide) trivial) rfl (by simp only [szs]; have := hp.2.2.2.1; omega) (Nat.le_refl _) (by omega)
  refine ⟨ρ', z1, z2, z3, fun k hk => (z4 k hk).trans ?_⟩
  simp only [List.mem_singleton, exists_eq_left]
  exact Iff.rfl
theorem m_r240 (N : Nat) (hN : 100 < N) {σ ρ0 : St} {nt n m ns ng ni no : Nat} {w h : Nat → Nat} {τ : Nat → Tr} (d : Dat σ ρ0 nt n m ns ng ni no w h τ) : ∀ (q i fu : Nat) (ρ : St), MA ρ0 ρ → Ask01 (ga ρ 23) → i + q = ni → q < fu → ∃ ρ', f_M_run_240 N fu ρ (nI i) = mGo N ρ' ∧ MA ρ0 ρ' ∧ Ask01 (ga ρ' 23) ∧ ∀ k, k < m → (ga ρ' 23 k = 1 ↔ ga ρ 23 k = 1 ∨ ∃ x, i ≤ x ∧ x < ni ∧ (os tab (oo τ (ga σ 17 x))).testBit k = true) := by
  intro q
  induction q with
  | zero =>
    intro i fu ρ ma a01 hi hfu
    obtain ⟨fu, rfl⟩ : ∃ q, fu = q + 1 := ⟨fu - 1, by omega⟩
    have e0 : f_M_run_240 N (fu + 1) ρ (nI i) = f_M_run_240_b N (f_M_run_240 N fu) ρ (nI i) := rfl
    have dd := dat_ma d ma
    have i6 := dd.2.2.2.2.1.1
    rw [e0]
    unfold f_M_run_240_b
    rw [dd.2.2.2.2.1.2.2.1, if_pos (nI_le (by omega) (by omega)), nm_eq, nm_eq, nm_eq]
    exact ⟨ρ, rfl, ma, a01, fun k hk => ⟨fun z => Or.inl z, fun z => by rcases z with z | ⟨x, h1, h2, -⟩; exact z; omega⟩⟩
  | succ q ih =>
    intro i fu ρ ma a01 hi hfu
    obtain ⟨fu, rfl⟩ : ∃ q, fu = q + 1 := ⟨fu - 1, by omega⟩
    have e0 : f_M_run_240 N (fu + 1) ρ (nI i) = f_M_run_240_b N (f_M_run_240 N fu) ρ (nI i) := rfl
    have dd := dat_ma d ma
    have i6 := dd.2.2.2.2.1.1
    have n60 := dd.2.1.1
    obtain ⟨k1, k2, k3, -⟩ := iE_at dd (show i < ni by omega)
    obtain ⟨ρ1, y1, y2, y3, y4⟩ := m_ask N hN dd k1 a01
    obtain ⟨ρ', z1, z2, z3, z4⟩ := ih (i + 1) fu ρ1 (ma.trans y2) y3 (by omega) (by omega)
    refine ⟨ρ', ?_, z2, z3, fun k hk => (z4 k hk).trans ?_⟩
    · rw [e0]
      unfold f_M_run_240_b
      rw [dd.2.2.2.2.1.2.2.1, if_neg (nI_ge (by omega) (by omega)), ckb_nI (show i < 6 by omega) (by decide), nI_clamp (show i < 2 ^ 31 by omega), k2, y1, bd_eq, nI_1]
      exact z1
    · rw [y4 k hk]
      have eo : os tab (oo τ (ga σ 17 i)) = tab (τ (iE ρ i)) := by rw [k3, oo_j (by omega)]; rfl
      constructor
      · rintro ((z | z) | ⟨x, h1, h2, z⟩)
        · exact Or.inl z
        · exact Or.inr ⟨i, Nat.le_refl _, by omega, by rw [eo]; exact z⟩
        · exact Or.inr ⟨x, by omega, h2, z⟩
      · rintro (z | ⟨x, h1, h2, z⟩)
        · exact Or.inl (Or.inl z)
        · by_cases ex : x = i
          · subst ex
            rw [eo] at z
            exact Or.inl (Or.inr z)
          · exact Or.inr ⟨x, by omega, h2, z⟩
theorem m_r204 (N : Nat) (hN : 100 < N) {σ ρ : St} {nt n m ns ng ni no : Nat} {w h : Nat → Nat} {τ : Nat → Tr} (d : Dat σ ρ nt n m ns ng ni no w h τ) : ∃ ρ', f_M_run_204 N N ρ 0 = mGo N ρ' ∧ MA ρ ρ' ∧ Ask01 (ga ρ' 23) ∧ ∀ k, k < m → (ga ρ' 23 k = 1 ↔ (late σ τ ni).testBit k = true) := by
  have n60 := d.2.1.1
  have i6 := d.2.2.2.2.1.1
  have m8 := d.2.1.2.1
  have key : ∀ (q i fu : Nat) (f : Nat → Int32), i + q = 8 → q < fu → (∀ k, k < i → f k = 0) → ∃ ρ', f_M_run_204 N fu (sa ρ 23 f) (nI i) = mGo N ρ' ∧ MA ρ ρ' ∧ Ask01 (ga ρ' 23) ∧ ∀ k, k < m → (ga ρ' 23 k = 1 ↔ (late σ τ ni).testBit k = true) := by
    intro q
    induction q with
    | zero =>
      intro i fu f hi hfu hf
      obtain ⟨fu, rfl⟩ : ∃ q, fu = q + 1 := ⟨fu - 1, by omega⟩
      have hi8 : i = 8 := by omega
      subst hi8
      have e0 : f_M_run_204 N (fu + 1) (sa ρ 23 f) (nI 8) = f_M_run_204_b N (f_M_run_204 N fu) (sa ρ 23 f) (nI 8) := rfl
      have dd : Dat σ (sa ρ 23 f) nt n m ns ng ni no w h τ := dat_ma d ma_asked
      have ea : ga (sa ρ 23 f) 23 = f := by rw [ga_sa, if_pos rfl]
      have a01 : Ask01 (ga (sa ρ 23 f) 23) := by rw [ea]; exact fun k hk => Or.inl (hf k hk)
      rw [e0]
      unfold f_M_run_204_b
      rw [if_pos (show (8 : Int32) ≤ nI 8 by decide)]
      have lt : ∀ k, (late σ τ ni).testBit k = true ↔ ((∃ x, 0 ≤ x ∧ x < ni ∧ (os tab (oo τ (ga σ 17 x))).testBit k = true) ∨ (os tab (oo τ (gi σ 5))).testBit k = true) := by
        intro k
        unfold late
        rw [Nat.testBit_or, Bool.or_eq_true, orB_bit]
        constructor
        · rintro (⟨x, h1, h2⟩ | z)
          · exact Or.inl ⟨x, Nat.zero_le _, h1, h2⟩
          · exact Or.inr z
        · rintro (⟨x, -, h1, h2⟩ | z)
          · exact Or.inl ⟨x, h1, h2⟩
          · exact Or.inr z
      rcases dd.2.2.2.2.2.2.2.1 with ⟨c1, c2⟩ | ⟨j, j1, j2, j3, -⟩
      · rw [c2, if_pos (by decide)]
        obtain ⟨ρ', z1, z2, z3, z4⟩ := m_r240 N hN dd ni 0 N (sa ρ 23 f) MA.rfl a01 (by omega) (by omega)
        refine ⟨ρ', z1, ma_asked.trans z2, z3, fun k hk => (z4 k hk).trans ?_⟩
        rw [lt, c1, ea, hf k (by omega)]
        constructor
        · rintro (z | z)
          · exact absurd z (by decide)
          · exact Or.inl z
        · rintro (z | z)
          · exact Or.inr z
          · simp [oo, os] at z
      · rw [j3, if_neg (show ¬ nI j < 0 from nI_pos (by omega))]
        obtain ⟨ρ1, y1, y2, y3, y4⟩ := m_ask N hN dd j1 a01
        rw [y1, bd_eq]
        obtain ⟨ρ', z1, z2, z3, z4⟩ := m_r240 N hN dd ni 0 N ρ1 y2 y3 (by omega) (by omega)
        refine ⟨ρ', z1, ma_asked.trans z2, z3, fun k hk => (z4 k hk).trans ?_⟩
        rw [y4 k hk, lt, j2, oo_j (by omega), ea, hf k (by omega)]
        constructor
        · rintro ((z | z) | z)
          · exact absurd z (by decide)
          · exact Or.inr z
          · exact Or.inl z
        · rintro (z | z)
          · exact Or.inr z
          · exact Or.inl (Or.inr z)
    | succ q ih =>
      intro i fu f hi hfu hf
      obtain ⟨fu, rfl⟩ : ∃ q, fu = q + 1 := ⟨fu - 1, by omega⟩
      have e0 : f_M_run_204 N (fu + 1) (sa ρ 23 f) (nI i) = f_M_run_204_b N (f_M_run_204 N fu) (sa ρ 23 f) (nI i) := rfl
      rw [e0]
      unfold f_M_run_204_b
      rw [if_neg (show ¬ (8 : Int32) ≤ nI i from nI_ge (b := 8) (by omega) (by decide)), ckb_nI (show i < 8 by omega) (by decide), nm_eq, wz_sa (by omega) (Or.inl rfl), nI_1]
      refine ih (i + 1) fu (upd f i 0) (by omega) (by omega) (fun k hk => ?_)
      rw [upd_at]
      by_cases ek : k = i
      · rw [if_pos ek]
      · rw [if_neg ek]; exact hf k (by omega)
  have := key 8 0 N (ga ρ 23) (by omega) (by omega) (fun k hk => by omega)
  rw [sa_self] at this
  exact this
/-- what M's head touches -/
def MH (ρ ρ' : St) : Prop := (∀ r, r ≠ 19 → r ≠ 14 → r ≠ 15 → r ≠ 12 → r ≠ 13 → gi ρ' r = gi ρ r) ∧ (∀ r, r ≠ 24 → r ≠ 25 → r ≠ 23 → ga ρ' r = ga ρ r) ∧ (∀ r, gb ρ' r = gb ρ r)
theorem MH.sm {ρ ρ' : St} (h : MH ρ ρ') : SM ρ ρ' :=
  ⟨fun r q => h.1 r (fun z => absurd q (by rw [z]; decide)) (fun z => absurd q (by rw [z]; decide)) (fun z => absurd q (by rw [z]; decide)) (fun z => absurd q (by rw [z]; decide)) (fun z => absurd q (by rw [z]; decide)), fun r q => h.2.1 r (fun z => absurd q (by rw [z]; decide)) (fun z => absurd q (by rw [z]; decide)) (fun z => absurd q (by rw [z]; decide)), fun r q => h.2.2 r⟩
theorem mh_0 {ρ ρ' : St} (h : MG (si (si ρ 12 0) 13 0) ρ') : MH ρ ρ' ∧ gi ρ' 12 = 0 ∧ gi ρ' 13 = 0 := by
  refine ⟨⟨fun r a b c d e => ?_, fun r a b _ => h.2.1 r a b, h.2.2⟩, ?_, ?_⟩
  · rw [h.1 r a b c, gi_si, if_neg e, gi_si, if_neg d]
  · rw [h.1 _ (by decide) (by decide) (by decide)]; rfl
  · rw [h.1 _ (by decide) (by decide) (by decide)]; rfl
theorem MH.ma {a b c : St} (h : MH a b) (k : MA b c) : MH a c := ⟨fun r x y z u v => (k.1 r x).trans (h.1 r x y z u v), fun r x y z => (k.2.1 r x y z).trans (h.2.1 r x y z), fun r => (k.2.2 r).trans (h.2.2 r)⟩
theorem colsok_sm {σ ρ ρ' : St} {w : Nat → Nat} {τ : Nat → Tr} {ns ng ni : Nat} (h : SM ρ ρ') : ColsOk σ ρ' w τ ns ng ni ↔ ColsOk σ ρ w τ ns ng ni := by
  have e2 : ga ρ' 11 = ga ρ 11 := h.2.1 _ (by decide)
  unfold ColsOk CKo Pc tb
  rw [e2]
theorem bndok_sm {ρ ρ' : St} {τ : Nat → Tr} {ng ni : Nat} (h : SM ρ ρ') : BndOk ρ' τ (isG ρ' τ ng) ni ↔ BndOk ρ τ (isG ρ τ ng) ni := by
  have e1 : gi ρ' 5 = gi ρ 5 := h.1 _ (by decide)
  have e2 : ga ρ' 15 = ga ρ 15 := h.2.1 _ (by decide)
  have e3 : ga ρ' 14 = ga ρ 14 := h.2.1 _ (by decide)
  have e4 : isG ρ' τ ng = isG ρ τ ng := by
    funext t
    unfold isG gE
    rw [e3]
  rw [e4]
  unfold BndOk iE
  rw [e1, e2]
theorem bndok_iff {σ ρ : St} {nt n m ns ng ni no : Nat} {w h : Nat → Nat} {τ : Nat → Tr} (d : Dat σ ρ nt n m ns ng ni no w h τ) (ag : AggOk σ τ ns ng) : BndOk ρ τ (isG ρ τ ng) ni ↔ BndOk ρ τ (isG' ρ τ ng) ni := by
  have cg : ∀ t, twf t → (bnd (isG ρ τ ng) t ↔ bnd (isG' ρ τ ng) t) := fun t v => bnd_congr (fun t v => isG_iff d ag v) v
  have tw : ∀ t, oo τ (gi ρ 5) = some t → twf t := by
    intro t q
    have n60 := d.2.1.1
    rcases d.2.2.2.2.2.2.2.1 with ⟨c1, c2⟩ | ⟨j, j1, j2, j3, -⟩
    · rw [c2] at q; cases q
    · rw [j3, oo_j (by omega)] at q
      cases q
      exact (d.2.1.2.2.2.2.2.2.1 j j1).2.2.1
  constructor
  · rintro ⟨z1, z2⟩
    exact ⟨fun t q => (cg t (tw t q)).mp (z1 t q), fun k hk => (cg _ (d.2.1.2.2.2.2.2.2.1 _ (iE_at d hk).1).2.2.1).mp (z2 k hk)⟩
  · rintro ⟨z1, z2⟩
    exact ⟨fun t q => (cg t (tw t q)).mpr (z1 t q), fun k hk => (cg _ (d.2.1.2.2.2.2.2.2.1 _ (iE_at d hk).1).2.2.1).mpr (z2 k hk)⟩
/-- M's head: the same fault as the class's, or all is ready -/
theorem m_headf (N : Nat) (hN : 100 < N) {σ ρ : St} {nt n m ns ng ni no : Nat} {w h : Nat → Nat} {τ : Nat → Tr} (d : Dat σ ρ nt n m ns ng ni no w h τ) {cc : Int32}
    (hc : (cc = -1 ∧ (ns = 0 ∨ ni = 0)) ∨ (0 < ns ∧ 0 < ni ∧ ((cc = -11 ∧ ¬ ColsOk σ ρ w τ ns ng ni) ∨ (ColsOk σ ρ w τ ns ng ni ∧ ((cc = -12 ∧ ¬ AggOk σ τ ns ng) ∨ (AggOk σ τ ns ng ∧ ((cc = -13 ∧ Grp σ τ ng ni ∧ ¬ BndOk ρ τ (isG' ρ τ ng) ni) ∨ (cc = 0 ∧ ¬ (Grp σ τ ng ni ∧ ¬ BndOk ρ τ (isG' ρ τ ng) ni))))))))) :
    (¬ cc = 0 ∧ ∃ ρ', f_M_run N ρ = some (cc, ρ') ∧ MH ρ ρ' ∧ gi ρ' 12 = 0 ∧ gi ρ' 13 = 0) ∨
    (cc = 0 ∧ 0 < ns ∧ 0 < ni ∧ ColsOk σ ρ w τ ns ng ni ∧ AggOk σ τ ns ng ∧ ¬ (Grp σ τ ng ni ∧ ¬ BndOk ρ τ (isG' ρ τ ng) ni) ∧ ∃ ρ', f_M_run N ρ = mGo N ρ' ∧ MH ρ ρ' ∧ gi ρ' 12 = 0 ∧ gi ρ' 13 = 0 ∧ gi ρ' 14 = 0 ∧ (gi ρ' 15 = 0 ∨ gi ρ' 15 = 1) ∧ (gi ρ' 15 = 1 ↔ Grp σ τ ng ni) ∧ Ask01 (ga ρ' 23) ∧ ∀ k, k < m → (ga ρ' 23 k = 1 ↔ (late σ τ ni).testBit k = true)) := by
  obtain ⟨ρ2, hρ2⟩ : ∃ ρ2, ρ2 = si (si ρ 12 0) 13 0 := ⟨_, rfl⟩
  have mh : ∀ {ρ'}, MG ρ2 ρ' → MH ρ ρ' ∧ gi ρ' 12 = 0 ∧ gi ρ' 13 = 0 := fun q => mh_0 (by rw [← hρ2]; exact q)
  have sm2 : SM ρ ρ2 := (mh MG.rfl).1.sm
  have d2 : Dat σ ρ2 nt n m ns ng ni no w h τ := d.same SX.rfl sm2
  have e0 : f_M_run N ρ = if gi ρ2 3 = 0 then f_M_run_25 N ρ2 else if gi ρ2 7 = 0 then f_M_run_25 N ρ2 else f_M_run_30 N ρ2 0 := by
    unfold f_M_run
    rw [nm_eq, nm_eq, hρ2]
  have fail84 : ∀ {ρ3 : St} {t : Int32}, MG ρ2 ρ3 → ¬ t = 0 → ∃ ρ', f_M_run_84 N ρ3 t = some (t, ρ') ∧ MG ρ2 ρ' := by
    intro ρ3 t mg ht
    obtain ⟨ρ', z1, z2⟩ := (m_r84 N hN (dat_mg d2 mg) t).1 ht
    exact ⟨ρ', z1, mg.trans z2⟩
  have ns3 := d.2.2.1.1
  have i6 := d.2.2.2.2.1.1
  have r30f : ∀ {t : Int32}, ¬ t = 0 → ∃ ρ', f_M_run_30 N ρ2 t = some (t, ρ') ∧ MG ρ2 ρ' := by
    intro t ht
    unfold f_M_run_30 f_M_run_53 f_M_run_57 f_M_run_80
    rw [nm_eq, if_neg (show ¬ gi (si ρ2 14 t) 14 = 0 from ht), nm_eq, if_neg (show ¬ gi (si (si ρ2 14 t) 14 (gi (si ρ2 14 t) 14)) 14 = 0 from ht)]
    exact fail84 (mg_wrong.trans mg_wrong) ht
  rcases hc with ⟨rfl, hc⟩ | ⟨c1, c2, hc⟩
  · left
    refine ⟨by decide, ?_⟩
    have e1 : f_M_run N ρ = f_M_run_30 N ρ2 (-1) := by
      rw [e0, d2.2.2.1.2.2.1, d2.2.2.2.2.1.2.2.1]
      unfold f_M_run_25
      rcases hc with hc | hc
      · rw [if_pos (show nI ns = 0 by rw [hc]; rfl)]
      · by_cases c : nI ns = 0
        · rw [if_pos c]
        · rw [if_neg c, if_pos (show nI ni = 0 by rw [hc]; rfl)]
    obtain ⟨ρ', z1, z2⟩ := r30f (t := -1) (by decide)
    obtain ⟨y1, y2, y3⟩ := mh z2
    exact ⟨ρ', by rw [e1, z1], y1, y2, y3⟩
  · have e1 : f_M_run N ρ = f_M_run_30 N ρ2 0 := by
      rw [e0, d2.2.2.1.2.2.1, d2.2.2.2.2.1.2.2.1, if_neg (show ¬ nI ns = 0 from fun z => by have := (nI_z (by omega)).mp z; omega), if_neg (show ¬ nI ni = 0 from fun z => by have := (nI_z (by omega)).mp z; omega)]
    obtain ⟨ρ3, hρ3⟩ : ∃ ρ3, ρ3 = si ρ2 14 0 := ⟨_, rfl⟩
    have mg3 : MG ρ2 ρ3 := by rw [hρ3]; exact mg_wrong
    have w3 : gi ρ3 14 = 0 := by rw [hρ3]; rfl
    have d3 := dat_mg d2 mg3
    obtain ⟨r, ρ4, z1, z2, z3, z4⟩ := m_cols N hN d3 c1
    rw [colsok_sm (sm2.trans mg3.sm)] at z4
    have e2 : f_M_run N ρ = if r = 0 then f_M_run_57 N ρ4 (-11) else f_M_run_53 N ρ4 := by
      rw [e1]
      unfold f_M_run_30
      rw [nm_eq, ← hρ3, w3, if_pos rfl, z1, bd_eq]
    have mg4 : MG ρ2 ρ4 := mg3.trans z2.mg
    rcases hc with ⟨rfl, hc⟩ | ⟨c3, hc⟩
    · left
      refine ⟨by decide, ?_⟩
      have r0 : r = 0 := by rcases z3 with z | z; exact z; exact absurd (z4.mp z) hc
      have e3 : f_M_run_57 N ρ4 (-11) = f_M_run_84 N (si ρ4 14 (-11)) (-11) := by
        unfold f_M_run_57 f_M_run_80
        rw [nm_eq, if_neg (show ¬ gi (si ρ4 14 (-11)) 14 = 0 from (by decide : ¬ (-11 : Int32) = 0))]
        rfl
      obtain ⟨ρ', y1, y2⟩ := fail84 (mg4.trans mg_wrong) (t := -11) (by decide)
      obtain ⟨u1, u2, u3⟩ := mh y2
      exact ⟨ρ', by rw [e2, if_pos r0, e3, y1], u1, u2, u3⟩
    · have r1 : r = 1 := z4.mpr c3
      have w4 : gi ρ4 14 = 0 := (z2.1 _ (by decide)).trans w3
      obtain ⟨ρ5, hρ5⟩ : ∃ ρ5, ρ5 = si ρ4 14 0 := ⟨_, rfl⟩
      have mg5 : MG ρ2 ρ5 := by rw [hρ5]; exact mg4.trans mg_wrong
      have w5 : gi ρ5 14 = 0 := by rw [hρ5]; rfl
      have d5 := dat_mg d2 mg5
      obtain ⟨r2, y1, y2, y3⟩ := m_aggs N hN d5
      have e3 : f_M_run N ρ = if r2 = 0 then f_M_run_84 N ρ5 (-12) else f_M_run_84 N ρ5 0 := by
        rw [e2, if_neg (show ¬ r = 0 by rw [r1]; decide)]
        unfold f_M_run_53 f_M_run_57 f_M_run_80
        rw [w4, nm_eq, ← hρ5, w5, if_pos rfl, y1, bd_eq, w5]
      rcases hc with ⟨rfl, hc⟩ | ⟨c4, hc⟩
      · left
        refine ⟨by decide, ?_⟩
        have r0 : r2 = 0 := by rcases y2 with z | z; exact z; exact absurd (y3.mp z) hc
        obtain ⟨ρ', u1, u2⟩ := fail84 mg5 (t := -12) (by decide)
        obtain ⟨v1, v2, v3⟩ := mh u2
        exact ⟨ρ', by rw [e3, if_pos r0, u1], v1, v2, v3⟩
      · have r21 : r2 = 1 := y3.mpr c4
        rw [if_neg (show ¬ r2 = 0 by rw [r21]; decide)] at e3
        have k84 := (m_r84 N hN d5 0).2 rfl
        rw [bndok_sm (sm2.trans mg5.sm), bndok_iff d c4, ← grp_iff] at k84
        rcases hc with ⟨rfl, hc⟩ | ⟨rfl, hc⟩
        · left
          refine ⟨by decide, ?_⟩
          obtain ⟨ρ', u1, u2⟩ := k84.1 hc
          obtain ⟨v1, v2, v3⟩ := mh (mg5.trans u2)
          exact ⟨ρ', by rw [e3, u1], v1, v2, v3⟩
        · right
          refine ⟨rfl, c1, c2, c3, c4, hc, ?_⟩
          obtain ⟨ρ6, u1, u2, u3, u4, u5⟩ := k84.2 hc
          obtain ⟨ρ', x1, x2, x3, x4⟩ := m_r204 N hN (dat_mg d5 u2)
          obtain ⟨v1, v2, v3⟩ := mh (mg5.trans u2)
          exact ⟨ρ', by rw [e3, u1, x1], v1.ma x2, (x2.1 _ (by decide)).trans v2, (x2.1 _ (by decide)).trans v3, (x2.1 _ (by decide)).trans u3, by rw [x2.1 15 (by decide)]; exact u4, by rw [x2.1 15 (by decide)]; exact u5, x3, x4⟩

