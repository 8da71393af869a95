/-! the reference's groups: finding one, what counts (own rows) -/
def KM (ng : Nat) (ρ : St) (q : Nat) (ky : Nat → Option Int64) : Prop := ∀ i, i < ng → enc (ga ρ 22 (4 * q + i)) (gb ρ 4 (4 * q + i)) (ky i)
/-- what the reference's groups touch -/
def MGr (ρ ρ' : St) : Prop := (∀ r, r ≠ 19 → r ≠ 20 → r ≠ 14 → r ≠ 16 → r ≠ 17 → gi ρ' r = gi ρ r) ∧ (∀ r, r ≠ 24 → r ≠ 25 → r ≠ 26 → r ≠ 20 → r ≠ 21 → r ≠ 22 → ga ρ' r = ga ρ r) ∧ (∀ r, r ≠ 6 → r ≠ 3 → r ≠ 4 → r ≠ 5 → gb ρ' r = gb ρ r)
theorem MGr.rfl {ρ : St} : MGr ρ ρ := ⟨fun _ _ _ _ _ _ => Eq.refl _, fun _ _ _ _ _ _ _ => Eq.refl _, fun _ _ _ _ _ => Eq.refl _⟩
theorem MGr.trans {a b c : St} (h : MGr a b) (k : MGr b c) : MGr a c := ⟨fun r a1 a2 a3 a4 a5 => (k.1 r a1 a2 a3 a4 a5).trans (h.1 r a1 a2 a3 a4 a5), fun r a1 a2 a3 a4 a5 a6 => (k.2.1 r a1 a2 a3 a4 a5 a6).trans (h.2.1 r a1 a2 a3 a4 a5 a6), fun r a1 a2 a3 a4 => (k.2.2 r a1 a2 a3 a4).trans (h.2.2 r a1 a2 a3 a4)⟩
theorem MF.mq {a b : St} (h : MF a b) : MGr a b := ⟨fun r a1 a2 a3 _ _ => h.1 r a1 a2 a3, fun r a1 a2 a3 _ _ _ => h.2.1 r a1 a2 a3, fun r a1 _ _ _ => h.2.2 r a1⟩
theorem mq_to {ρ : St} {x : Int32} : MGr ρ (si ρ 16 x) := ⟨fun r _ _ _ h _ => by rw [gi_si, if_neg h], fun _ _ _ _ _ _ _ => rfl, fun _ _ _ _ _ => rfl⟩
theorem mq_gc {ρ : St} {x : Int32} : MGr ρ (si ρ 17 x) := ⟨fun r _ _ _ _ h => by rw [gi_si, if_neg h], fun _ _ _ _ _ _ _ => rfl, fun _ _ _ _ _ => rfl⟩
theorem mq_go {ρ : St} {i x : Int32} : MGr ρ (wa ρ 20 i x) := ⟨fun _ _ _ _ _ _ => rfl, fun r _ _ _ h _ _ => by rw [ga_wa, if_neg h], fun _ _ _ _ _ => rfl⟩
theorem mq_an {ρ : St} {i x : Int32} : MGr ρ (wz ρ 21 i x) := ⟨fun _ _ _ _ _ _ => rfl, fun r _ _ _ _ h _ => by rw [ga_wz, if_neg h], fun _ _ _ _ _ => rfl⟩
theorem mq_gn {ρ : St} {i x : Int32} : MGr ρ (wz ρ 22 i x) := ⟨fun _ _ _ _ _ _ => rfl, fun r _ _ _ _ _ h => by rw [ga_wz, if_neg h], fun _ _ _ _ _ => rfl⟩
theorem mq_ar {ρ : St} {i : Int32} {x : Int64} : MGr ρ (wl ρ 3 i x) := ⟨fun _ _ _ _ _ _ => rfl, fun _ _ _ _ _ _ _ => rfl, fun r _ h _ _ => by rw [gb_wl, if_neg h]⟩
theorem mq_gv {ρ : St} {i : Int32} {x : Int64} : MGr ρ (wl ρ 4 i x) := ⟨fun _ _ _ _ _ _ => rfl, fun _ _ _ _ _ _ _ => rfl, fun r _ _ h _ => by rw [gb_wl, if_neg h]⟩
theorem mq_su {ρ : St} {i : Int32} {x : Int64} : MGr ρ (wl ρ 5 i x) := ⟨fun _ _ _ _ _ _ => rfl, fun _ _ _ _ _ _ _ => rfl, fun r _ _ _ h => by rw [gb_wl, if_neg h]⟩
theorem MGr.sm {ρ ρ' : St} (h : MGr ρ ρ') : SM ρ ρ' :=
  ⟨fun r q => h.1 r (fun z => absurd q (by rw [z]; decide)) (fun z => absurd q (by rw [z]; decide)) (fun z => absurd q (by rw [z]; decide)) (fun z => absurd q (by rw [z]; decide)) (fun z => absurd q (by rw [z]; decide)), fun r q => h.2.1 r (fun z => absurd q (by rw [z]; decide)) (fun z => absurd q (by rw [z]; decide)) (fun z => absurd q (by rw [z]; decide)) (fun z => absurd q (by rw [z]; decide)) (fun z => absurd q (by rw [z]; decide)) (fun z => absurd q (by rw [z]; decide)), fun r q => h.2.2 r (fun z => absurd q (by rw [z]; decide)) (fun z => absurd q (by rw [z]; decide)) (fun z => absurd q (by rw [z]; decide)) (fun z => absurd q (by rw [z]; decide))⟩
theorem m_clear (N : Nat) (hN : 100 < N) {ρ : St} {q : Nat} (hq : q < 520) (hg : gi ρ 17 = nI q) : ∃ ρ', f_M_findGroup_186 N N ρ (nI q) 0 = some (nI q, si ρ' 17 (nI (q + 1))) ∧ MGr ρ ρ' ∧ gi ρ' = gi ρ ∧ ga ρ' = ga ρ ∧ (∀ r, r ≠ 5 → gb ρ' r = gb ρ r) ∧ ∀ z, gb ρ' 5 z = if 8 * q ≤ z ∧ z < 8 * q + 8 then 0 else gb ρ 5 z := by
  have key : ∀ (d i fu : Nat) (s : St), i + d = 8 → d < fu → MGr ρ s → gi s = gi ρ → ga s = ga ρ → (∀ r, r ≠ 5 → gb s r = gb ρ r) → (∀ z, gb s 5 z = if 8 * q ≤ z ∧ z < 8 * q + i then 0 else gb ρ 5 z) → ∃ ρ', f_M_findGroup_186 N fu s (nI q) (nI i) = some (nI q, si ρ' 17 (nI (q + 1))) ∧ MGr ρ ρ' ∧ gi ρ' = gi ρ ∧ ga ρ' = ga ρ ∧ (∀ r, r ≠ 5 → gb ρ' r = gb ρ r) ∧ ∀ z, gb ρ' 5 z = if 8 * q ≤ z ∧ z < 8 * q + 8 then 0 else gb ρ 5 z := by
    intro d
    induction d with
    | zero =>
      intro i fu s hi hfu mq g1 g2 g3 g4
      obtain ⟨fu, rfl⟩ : ∃ q, fu = q + 1 := ⟨fu - 1, by omega⟩
      have e : i = 8 := by omega
      subst e
      refine ⟨s, ?_, mq, g1, g2, g3, g4⟩
      show f_M_findGroup_186_b N (f_M_findGroup_186 N fu) s (nI q) (nI 8) = _
      unfold f_M_findGroup_186_b
      rw [if_pos (show (8 : Int32) ≤ nI 8 by decide), nm_eq, g1, hg, nI_1]
    | succ d ih =>
      intro i fu s hi hfu mq g1 g2 g3 g4
      obtain ⟨fu, rfl⟩ : ∃ q, fu = q + 1 := ⟨fu - 1, by omega⟩
      have st : f_M_findGroup_186 N (fu + 1) s (nI q) (nI i) = f_M_findGroup_186 N fu (wl s 5 (nI (8 * q + i)) 0) (nI q) (nI (i + 1)) := by
        show f_M_findGroup_186_b N (f_M_findGroup_186 N fu) s (nI q) (nI i) = _
        unfold f_M_findGroup_186_b
        rw [if_neg (show ¬ (8 : Int32) ≤ nI i from nI_ge (b := 8) (by omega) (by decide)), nI_8', ckb_nI (show 8 * q + i < 4160 by omega) (by decide), nm_eq, nI_1]
      rw [st]
      refine ih (i + 1) fu _ (by omega) (by omega) (mq.trans mq_su) g1 g2 (fun r hr => by rw [gb_wl, if_neg hr]; exact g3 r hr) (fun z => ?_)
      rw [gb_wl, if_pos rfl, nI_clamp (show 8 * q + i < 2 ^ 31 by omega), updL_at]
      by_cases c : z = 8 * q + i
      · rw [if_pos c, if_pos (by omega)]
      · rw [if_neg c, g4]
        by_cases c2 : 8 * q ≤ z ∧ z < 8 * q + i
        · rw [if_pos c2, if_pos (by omega)]
        · rw [if_neg c2, if_neg (by omega)]
  exact key 8 0 N ρ (by omega) (by omega) MGr.rfl rfl rfl (fun _ _ => rfl) (fun z => by rw [if_neg (by omega)])
theorem m_find (N : Nat) (hN : 600 < N) {ρ : St} {ng G : Nat} {ky : Nat → Nat → Option Int64} {kk : Nat → Option Int64} (h4 : ng ≤ 4) (hG : G < 520) (hn : gi ρ 6 = nI ng) (hg : gi ρ 17 = nI G) (hk : ∀ q, q < G → KM ng ρ q (ky q)) (ho : KM ng ρ G kk) :
    ∃ q, GrpAt ng G ky kk q ∧ ((q < G ∧ f_M_findGroup_74 N N ρ (nI G) 0 = some (nI q, ρ)) ∨ (q = G ∧ f_M_findGroup_74 N N ρ (nI G) 0 = f_M_findGroup_186 N N ρ (nI G) 0)) := by
  have inner : ∀ (k74 : St → Int32 → Int32 → Option (Int32 × St)) (q : Nat), q < G → ∀ (d i fu : Nat) (s : Int32), i + d = ng → d < fu → (s = 0 ∨ s = 1) → ∃ r : Int32, (r = 0 ∨ r = 1) ∧ f_M_findGroup_87 N k74 fu ρ (nI G) (nI q) s (nI i) = (if r = 0 then k74 ρ (nI G) (nI (q + 1)) else some (nI q, ρ)) ∧ (r = 1 ↔ s = 1 ∧ ∀ j, i ≤ j → j < ng → ky q j = kk j) := by
    intro k74 q hq d
    induction d with
    | zero =>
      intro i fu s hd hfu hs
      obtain ⟨fu, rfl⟩ : ∃ q, fu = q + 1 := ⟨fu - 1, by omega⟩
      have e0 : f_M_findGroup_87 N k74 (fu + 1) ρ (nI G) (nI q) s (nI i) = f_M_findGroup_87_b N k74 (f_M_findGroup_87 N k74 fu) ρ (nI G) (nI q) s (nI i) := rfl
      refine ⟨s, hs, ?_, fun z => ⟨z, fun j h1 h2 => by omega⟩, fun z => z.1⟩
      rw [e0]
      unfold f_M_findGroup_87_b
      rw [hn, if_pos (nI_le (show ng ≤ i by omega) (by omega)), nI_1]
    | succ d ih =>
      intro i fu s hd hfu hs
      obtain ⟨fu, rfl⟩ : ∃ q, fu = q + 1 := ⟨fu - 1, by omega⟩
      have e0 : f_M_findGroup_87 N k74 (fu + 1) ρ (nI G) (nI q) s (nI i) = f_M_findGroup_87_b N k74 (f_M_findGroup_87 N k74 fu) ρ (nI G) (nI q) s (nI i) := rfl
      rw [e0]
      unfold f_M_findGroup_87_b
      rw [hn, if_neg (nI_ge (show i < ng by omega) (by omega)), nI_4', nI_4', nI_1]
      simp only [ckb_nI (show 4 * q + i < 2080 by omega) (show 2080 < 2 ^ 31 by decide), ckb_nI (show 4 * G + i < 2080 by omega) (show 2080 < 2 ^ 31 by decide), nI_clamp (show 4 * q + i < 2 ^ 31 by omega), nI_clamp (show 4 * G + i < 2 ^ 31 by omega), cmp_eq]
      have ei := enc_inj (hk q hq i (by omega)) (ho i (by omega))
      have go : ∀ v : Int32, (v = 0 ∨ v = 1) → (v = 1 ↔ (s = 1 ∧ ky q i = kk i)) → ∃ r : Int32, (r = 0 ∨ r = 1) ∧ f_M_findGroup_87 N k74 fu ρ (nI G) (nI q) v (nI (i + 1)) = (if r = 0 then k74 ρ (nI G) (nI (q + 1)) else some (nI q, ρ)) ∧ (r = 1 ↔ s = 1 ∧ ∀ j, i ≤ j → j < ng → ky q j = kk j) := by
        intro v hv hb
        obtain ⟨r, z1, z2, z3⟩ := ih (i + 1) fu v (by omega) (by omega) hv
        refine ⟨r, z1, z2, z3.trans ?_⟩
        rw [hb]
        constructor
        · rintro ⟨⟨y1, y2⟩, y3⟩
          refine ⟨y1, fun j h1 h2 => ?_⟩
          by_cases c : j = i
          · subst c; exact y2
          · exact y3 j (by omega) h2
        · rintro ⟨y1, y2⟩
          exact ⟨⟨y1, y2 i (Nat.le_refl _) (by omega)⟩, fun j h1 h2 => y2 j (by omega) h2⟩
      by_cases c : s = 0
      · rw [if_pos c]
        exact go 0 (Or.inl rfl) ⟨fun z => absurd z (by decide), fun z => absurd z.1 (by rw [c]; decide)⟩
      · have s1 : s = 1 := by rcases hs with z | z; exact absurd z c; exact z
        rw [if_neg c]
        by_cases c2 : ga ρ 22 (4 * q + i) = ga ρ 22 (4 * G + i)
        · rw [if_pos c2]
          by_cases c3 : ga ρ 22 (4 * q + i) = 0
          · rw [if_pos c3]
            by_cases c4 : gb ρ 4 (4 * q + i) = gb ρ 4 (4 * G + i)
            · rw [if_pos c4]
              exact go 1 (Or.inr rfl) ⟨fun _ => ⟨s1, ei.mpr ⟨c2, fun _ => c4⟩⟩, fun _ => rfl⟩
            · rw [if_neg c4]
              exact go 0 (Or.inl rfl) ⟨fun z => absurd z (by decide), fun z => absurd ((ei.mp z.2).2 c3) c4⟩
          · rw [if_neg c3]
            exact go 1 (Or.inr rfl) ⟨fun _ => ⟨s1, ei.mpr ⟨c2, fun z => absurd z c3⟩⟩, fun _ => rfl⟩
        · rw [if_neg c2]
          exact go 0 (Or.inl rfl) ⟨fun z => absurd z (by decide), fun z => absurd (ei.mp z.2).1 c2⟩
  have outer : ∀ (d q fu : Nat), q + d = G → d < fu → (∀ p, p < q → ¬ ∀ i, i < ng → ky p i = kk i) → ∃ p, GrpAt ng G ky kk p ∧ ((p < G ∧ f_M_findGroup_74 N fu ρ (nI G) (nI q) = some (nI p, ρ)) ∨ (p = G ∧ f_M_findGroup_74 N fu ρ (nI G) (nI q) = f_M_findGroup_186 N N ρ (nI G) 0)) := by
    intro d
    induction d with
    | zero =>
      intro q fu hq hfu hb
      obtain ⟨fu, rfl⟩ : ∃ q, fu = q + 1 := ⟨fu - 1, by omega⟩
      have e : q = G := by omega
      subst e
      refine ⟨q, ⟨Nat.le_refl _, hb, fun z => by omega⟩, Or.inr ⟨rfl, ?_⟩⟩
      show f_M_findGroup_74_b N (f_M_findGroup_74 N fu) ρ (nI q) (nI q) = _
      unfold f_M_findGroup_74_b
      rw [hg, if_pos (nI_le (Nat.le_refl _) (by omega))]
    | succ d ih =>
      intro q fu hq hfu hb
      obtain ⟨fu, rfl⟩ : ∃ q, fu = q + 1 := ⟨fu - 1, by omega⟩
      have e0 : f_M_findGroup_74 N (fu + 1) ρ (nI G) (nI q) = f_M_findGroup_74_b N (f_M_findGroup_74 N fu) ρ (nI G) (nI q) := rfl
      obtain ⟨r, r1, r2, r3⟩ := inner (f_M_findGroup_74 N fu) q (by omega) ng 0 N 1 (by omega) (by omega) (Or.inr rfl)
      have e1 : f_M_findGroup_74 N (fu + 1) ρ (nI G) (nI q) = if r = 0 then f_M_findGroup_74 N fu ρ (nI G) (nI (q + 1)) else some (nI q, ρ) := by
        rw [e0]
        unfold f_M_findGroup_74_b
        rw [hg, if_neg (nI_ge (by omega) (by omega))]
        exact r2
      rw [e1]
      by_cases c : r = 0
      · rw [if_pos c]
        refine ih (q + 1) fu (by omega) (by omega) (fun p hp => ?_)
        by_cases e : p = q
        · subst e
          exact fun u => by have := r3.mpr ⟨rfl, fun j _ hj => u j hj⟩; rw [c] at this; exact absurd this (by decide)
        · exact hb p (by omega)
      · have r11 : r = 1 := by rcases r1 with z | z; exact absurd z c; exact z
        rw [if_neg c]
        exact ⟨q, ⟨by omega, hb, fun _ j hj => (r3.mp r11).2 j (by omega) hj⟩, Or.inl ⟨by omega, rfl⟩⟩
  exact outer G 0 N (by omega) (by omega) (fun p hp => by omega)
/-- the group of the keys is one and the same -/
theorem grpAt_uniq {ng G q p : Nat} {ky : Nat → Nat → Option Int64} {kk : Nat → Option Int64} (h : GrpAt ng G ky kk q) (k : GrpAt ng G ky kk p) : q = p := by
  rcases Nat.lt_trichotomy q p with z | z | z
  · exact absurd (h.2.2 (by have := k.1; omega)) (k.2.1 q z)
  · exact z
  · exact absurd (k.2.2 (by have := h.1; omega)) (h.2.1 p z)
theorem m_counts (N : Nat) (hN : 600 < N) {ρ : St} {D : Nat → Bool} {gr : Nat → Nat} {arg : Nat → Nat → Option Int64} {r s e : Nat} (hr : r < 520) (hs : s < 8) (he : e < 60) (ha : ga ρ 10 s = nI e) (hD : ga ρ 6 e = 0 ↔ D s = false) (hg : ∀ i, i ≤ r → gr i < 2 ^ 31 ∧ ga ρ 20 i = nI (gr i)) (hc : ∀ i, i ≤ r → enc (ga ρ 21 (8 * i + s)) (gb ρ 3 (8 * i + s)) (arg i s)) :
    ∃ b, f_M_countsIn N ρ (nI r) (nI s) = some (b, ρ) ∧ (b = 0 ∨ b = 1) ∧ (b = 1 ↔ cntB D gr arg r s = true) := by
  have n10 : ¬ (1 : Int32) = 0 := by decide
  have key : ∀ (d i fu : Nat) (x : Int32), i + d = r → d < fu → (x = 0 ∨ x = 1) → arg r s ≠ none → ∃ b, f_M_countsIn_21 N fu ρ (nI r) (nI s) x (nI i) = some (b, ρ) ∧ (b = 0 ∨ b = 1) ∧ (b = 1 ↔ x = 0 ∧ (D s = false ∨ ∀ j, i ≤ j → j < r → gr j = gr r → arg j s ≠ arg r s)) := by
    intro d
    induction d with
    | zero =>
      intro i fu x hi hfu hx hne
      obtain ⟨fu, rfl⟩ : ∃ q, fu = q + 1 := ⟨fu - 1, by omega⟩
      have e0 : f_M_countsIn_21 N (fu + 1) ρ (nI r) (nI s) x (nI i) = f_M_countsIn_21_b N (f_M_countsIn_21 N fu) ρ (nI r) (nI s) x (nI i) := rfl
      rw [e0]
      unfold f_M_countsIn_21_b f_M_countsIn_115
      rw [if_pos (nI_le (show r ≤ i by omega) (by omega))]
      by_cases c : x = 0
      · rw [if_pos c]
        exact ⟨1, rfl, Or.inr rfl, fun _ => ⟨c, Or.inr (fun j a b => by omega)⟩, fun _ => rfl⟩
      · rw [if_neg c]
        exact ⟨0, rfl, Or.inl rfl, fun z => absurd z (by decide), fun z => absurd z.1 c⟩
    | succ d ih =>
      intro i fu x hi hfu hx hne
      obtain ⟨fu, rfl⟩ : ∃ q, fu = q + 1 := ⟨fu - 1, by omega⟩
      have e0 : f_M_countsIn_21 N (fu + 1) ρ (nI r) (nI s) x (nI i) = f_M_countsIn_21_b N (f_M_countsIn_21 N fu) ρ (nI r) (nI s) x (nI i) := rfl
      rw [e0]
      unfold f_M_countsIn_21_b f_M_countsIn_115
      rw [if_neg (nI_ge (show i < r by omega) (by omega)), ckb_nI hs (by decide), nI_clamp (show s < 2 ^ 31 by omega), ha, ckb_nI he (by decide), nI_clamp (show e < 2 ^ 31 by omega)]
      by_cases c : ga ρ 6 e = 0
      · rw [if_pos c]
        by_cases c1 : x = 0
        · rw [if_pos c1]
          exact ⟨1, rfl, Or.inr rfl, fun _ => ⟨c1, Or.inl (hD.mp c)⟩, fun _ => rfl⟩
        · rw [if_neg c1]
          exact ⟨0, rfl, Or.inl rfl, fun z => absurd z (by decide), fun z => absurd z.1 c1⟩
      · have nD : ¬ D s = false := fun z => c (hD.mpr z)
        rw [if_neg c, nI_8', nI_8', nI_1]
        simp only [ckb_nI (show i < 520 by omega) (show 520 < 2 ^ 31 by decide), ckb_nI hr (show 520 < 2 ^ 31 by decide), nI_clamp (show i < 2 ^ 31 by omega), nI_clamp (show r < 2 ^ 31 by omega), ckb_nI (show 8 * i + s < 4160 by omega) (show 4160 < 2 ^ 31 by decide), ckb_nI (show 8 * r + s < 4160 by omega) (show 4160 < 2 ^ 31 by decide), nI_clamp (show 8 * i + s < 2 ^ 31 by omega), nI_clamp (show 8 * r + s < 2 ^ 31 by omega), cmp_eq]
        rw [(hg i (by omega)).2, (hg r (Nat.le_refl _)).2]
        have ng := nI_eq (hg i (by omega)).1 (hg r (Nat.le_refl _)).1
        have go : ∀ v : Int32, (v = 0 ∨ v = 1) → (v = 0 ↔ (x = 0 ∧ (gr i = gr r → arg i s ≠ arg r s))) → ∃ b, f_M_countsIn_21 N fu ρ (nI r) (nI s) v (nI (i + 1)) = some (b, ρ) ∧ (b = 0 ∨ b = 1) ∧ (b = 1 ↔ x = 0 ∧ (D s = false ∨ ∀ j, i ≤ j → j < r → gr j = gr r → arg j s ≠ arg r s)) := by
          intro v hv hb
          obtain ⟨b, z1, z2, z3⟩ := ih (i + 1) fu v (by omega) (by omega) hv hne
          refine ⟨b, z1, z2, z3.trans ?_⟩
          rw [hb]
          constructor
          · rintro ⟨⟨y1, y2⟩, y3⟩
            refine ⟨y1, ?_⟩
            rcases y3 with y3 | y3
            · exact Or.inl y3
            · refine Or.inr (fun j a b' => ?_)
              by_cases c : j = i
              · subst c; exact y2
              · exact y3 j (by omega) b'
          · rintro ⟨y1, y2⟩
            rcases y2 with y2 | y2
            · exact absurd y2 nD
            · exact ⟨⟨y1, y2 i (Nat.le_refl _) (by omega)⟩, Or.inr (fun j a b' => y2 j (by omega) b')⟩
        by_cases c1 : x = 0
        · rw [if_pos c1]
          have ei := enc_inj (hc i (by omega)) (hc r (Nat.le_refl _))
          have er : ga ρ 21 (8 * r + s) = 0 := by
            rcases hc r (Nat.le_refl _) with z | z
            · exact absurd z.1 hne
            · exact z.2
          by_cases c2 : gr i = gr r
          · rw [if_pos (show nI (gr i) = nI (gr r) by rw [c2])]
            by_cases c3 : ga ρ 21 (8 * i + s) = 0
            · rw [if_pos c3]
              by_cases c4 : gb ρ 3 (8 * i + s) = gb ρ 3 (8 * r + s)
              · rw [if_pos c4]
                exact go 1 (Or.inr rfl) ⟨fun z => absurd z (by decide), fun z => absurd (ei.mpr ⟨by rw [c3, er], fun _ => c4⟩) (z.2 c2)⟩
              · rw [if_neg c4]
                exact go 0 (Or.inl rfl) ⟨fun _ => ⟨c1, fun _ z => c4 ((ei.mp z).2 c3)⟩, fun _ => rfl⟩
            · rw [if_neg c3]
              exact go 0 (Or.inl rfl) ⟨fun _ => ⟨c1, fun _ z => c3 (by rw [(ei.mp z).1, er])⟩, fun _ => rfl⟩
          · rw [if_neg (show ¬ nI (gr i) = nI (gr r) from fun z => c2 (ng.mp z))]
            exact go 0 (Or.inl rfl) ⟨fun _ => ⟨c1, fun z => absurd z c2⟩, fun _ => rfl⟩
        · rw [if_neg c1]
          exact go 1 (Or.inr rfl) ⟨fun z => absurd z (by decide), fun z => absurd z.1 c1⟩
  unfold f_M_countsIn
  rw [nI_8', ckb_nI (show 8 * r + s < 4160 by omega) (by decide), nI_clamp (show 8 * r + s < 2 ^ 31 by omega)]
  have ce : cntB D gr arg r s = true ↔ (arg r s ≠ none ∧ (D s = false ∨ ∀ i, i < r → gr i = gr r → arg i s ≠ arg r s)) := by
    unfold cntB
    cases D s <;> simp
  rcases hc r (Nat.le_refl _) with z | z
  · rw [if_neg (by rw [z.2]; decide)]
    exact ⟨0, rfl, Or.inl rfl, fun u => absurd u (by decide), fun u => absurd z.1 (ce.mp u).1⟩
  · have hne : arg r s ≠ none := by rw [z.1]; simp
    rw [if_pos z.2]
    obtain ⟨b, z1, z2, z3⟩ := key r 0 N 0 (by omega) (by omega) (Or.inl rfl) hne
    refine ⟨b, z1, z2, z3.trans ?_⟩
    rw [ce]
    constructor
    · rintro ⟨-, y⟩
      refine ⟨hne, ?_⟩
      rcases y with y | y
      · exact Or.inl y
      · exact Or.inr (fun i hi => y i (by omega) hi)
    · rintro ⟨-, y⟩
      refine ⟨rfl, ?_⟩
      rcases y with y | y
      · exact Or.inl y
      · exact Or.inr (fun i _ hi => y i hi)

