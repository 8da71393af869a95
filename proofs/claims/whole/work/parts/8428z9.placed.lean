/-! groups in step: a row is put into its group (own rows) -/
theorem g_place (N : Nat) (hN : 600 < N) {σ ρ : St} {ng U k GX GM : Nat} {K : Nat → Nat} {D : Nat → Bool} {Q : (Nat → Int32) → (Nat → Option Int64) → Prop} {gr : Nat → Nat} {ky arg : Nat → Nat → Option Int64} {pos : Nat → Nat → Int32} {kk : Nat → Option Int64} {p : Nat → Int32} (h4 : ng ≤ 4) (hk : k < 512) (hQ : ∀ p a b, (∀ i, i < ng → a i = b i) → Q p a → Q p b) (F : GF ng U K D Q k k 0 GX GM gr ky arg pos σ ρ) (gn : gi ρ 6 = nI ng) (ox : 0 < ng → KX ng σ GX kk) (om : KM ng ρ GM kk) (hp : ga σ 28 k = pkv p) (hcb : ga σ 29 k = 0) (qp : Q p kk) :
    ∃ q σ' ρ1 GX' GM' ky', f_G_placeRow N σ (nI ng) = some ((), σ') ∧ f_M_findGroup_74 N N ρ (nI GM) 0 = some (nI q, ρ1) ∧ XG σ σ' ∧ MGr ρ ρ1 ∧ gi ρ1 14 = gi ρ 14 ∧ gi ρ1 16 = nI k ∧ gi σ' 20 = nI q ∧ q < GM' ∧
      GF ng U K D Q (k + 1) k 0 GX' GM' (upF gr k q) ky' (fun r s => if r = k then none else arg r s) (fun r => if r = k then p else pos r) σ' (si (wa ρ1 20 (nI k) (nI q)) 16 (nI (k + 1))) := by
  obtain ⟨f1, f2, f3, f4, f5, f6, f7, f8, f9, f10, f11, f12, f13, f14⟩ := F
  have hGM : GM ≤ 512 ∧ GX ≤ 511 ∧ GM ≤ GX := by rcases f5 with ⟨a, b, c⟩ | ⟨a, b, ⟨c, e⟩ | ⟨c, e⟩⟩ <;> omega
  obtain ⟨q, e1, e2, e3, e4, e5, e6⟩ := g_find N hN (kk := kk) h4 hk f5 f2 f3 gn f7 (by rcases Nat.eq_zero_or_pos ng with z | z; exact Or.inr z; exact Or.inl (ox z)) om
  obtain ⟨σ', x1, x2, x3, x4, x5, x6, x7, x8, x9, x10⟩ := x_p13 N (by omega) (q := q) hk (by omega) e2 f1 f2 f8 (fun i hi => by have := (f6 i hi).1; omega)
  obtain ⟨GX', hGX'⟩ : ∃ z, z = if q = GX then GX + 1 else GX := ⟨_, rfl⟩
  rw [← hGX'] at x5 x6
  obtain ⟨GM', hGM'⟩ : ∃ z, z = if q = GM then GM + 1 else GM := ⟨_, rfl⟩
  have mm : ∃ ρ1, f_M_findGroup_74 N N ρ (nI GM) 0 = some (nI q, ρ1) ∧ MGr ρ ρ1 ∧ gi ρ1 14 = gi ρ 14 ∧ gi ρ1 16 = nI k ∧ gi ρ1 17 = nI GM' ∧ ga ρ1 = ga ρ ∧ (∀ r, r ≠ 5 → gb ρ1 r = gb ρ r) ∧ ∀ z, gb ρ1 5 z = if q = GM ∧ 8 * q ≤ z ∧ z < 8 * q + 8 then 0 else gb ρ 5 z := by
    rcases e6 with ⟨u1, u2⟩ | ⟨u1, u2⟩
    · exact ⟨ρ, u2, MGr.rfl, rfl, f4, by rw [hGM', if_neg (by omega)]; exact f3, rfl, fun _ _ => rfl, fun z => by rw [if_neg (fun z => by omega)]⟩
    · subst u1
      obtain ⟨ρ', v1, v2, v3, v4, v5, v6⟩ := m_clear N (by omega) (show q < 520 by omega) f3
      refine ⟨_, u2.trans v1, v2.trans mq_gc, by rw [gi_si, if_neg (by decide), v3], by rw [gi_si, if_neg (by decide), v3, f4], by rw [gi_si, if_pos rfl, hGM', if_pos rfl], v4, v5, fun z => ?_⟩
      show gb ρ' 5 z = _
      rw [v6]
      by_cases e : 8 * q ≤ z ∧ z < 8 * q + 8
      · rw [if_pos e, if_pos ⟨rfl, e⟩]
      · rw [if_neg e, if_neg (fun z => e z.2)]
  obtain ⟨ρ1, m1, m2, m3, m4, m5, m6, m7, m8⟩ := mm
  obtain ⟨ky', hky'⟩ : ∃ f : Nat → Nat → Option Int64, f = fun p => if q = GM ∧ p = GM then kk else ky p := ⟨_, rfl⟩
  have kyo : ∀ p, p < GM → ky' p = ky p := fun p hp => by rw [hky']; show (if _ then _ else _) = _; rw [if_neg (fun z => by omega)]
  have kyn : q = GM → ky' GM = kk := fun e => by rw [hky']; show (if _ then _ else _) = _; rw [if_pos ⟨e, rfl⟩]
  obtain ⟨arg', harg'⟩ : ∃ f : Nat → Nat → Option Int64, f = fun r s => if r = k then none else arg r s := ⟨_, rfl⟩
  have ak : ∀ s, arg' k s = none := fun s => by rw [harg']; show (if _ then _ else _) = _; rw [if_pos rfl]
  have ao : ∀ r s, ¬ r = k → arg' r s = arg r s := fun r s hr => by rw [harg']; show (if _ then _ else _) = _; rw [if_neg hr]
  obtain ⟨gr', hgr'⟩ : ∃ f : Nat → Nat, f = upF gr k q := ⟨_, rfl⟩
  have go : ∀ r, ¬ r = k → gr' r = gr r := fun r hr => by rw [hgr']; exact upF_ne hr
  have gk : gr' k = q := by rw [hgr']; exact upF_eq
  obtain ⟨pos', hpos'⟩ : ∃ f : Nat → Nat → Int32, f = fun r => if r = k then p else pos r := ⟨_, rfl⟩
  have po : ∀ r, ¬ r = k → pos' r = pos r := fun r hr => by rw [hpos']; show (if _ then _ else _) = _; rw [if_neg hr]
  have pk : pos' k = p := by rw [hpos']; show (if _ then _ else _) = _; rw [if_pos rfl]
  obtain ⟨ρ2, hρ2⟩ : ∃ s, s = si (wa ρ1 20 (nI k) (nI q)) 16 (nI (k + 1)) := ⟨_, rfl⟩
  have ga2 : ∀ r, r ≠ 20 → ga ρ2 r = ga ρ r := fun r hr => by rw [hρ2, ga_si, ga_wa, if_neg hr, m6]
  have gb2 : ∀ r, gb ρ2 r = gb ρ1 r := fun r => by rw [hρ2]; rfl
  have go2 : ∀ z, ga ρ2 20 z = if z = k then nI q else ga ρ 20 z := fun z => by rw [hρ2, ga_si, ga_wa, if_pos rfl, nI_clamp (by omega), upd_at, m6]
  have hacc : ∀ p s, acc K D gr' arg' p s (k + 1) = acc K D gr arg p s k := fun p s => (acc_other (Or.inr (ak s))).trans (acc_congr k (fun i hi => go i (by omega)) (fun i hi => ao i s (by omega)))
  have hcnt : ∀ r s, r < k → cntB D gr' arg' r s = cntB D gr arg r s := fun r s hr => cnt_congr (fun i hi => go i (by omega)) (fun i hi => ao i s (by omega))
  refine ⟨q, σ', ρ1, GX', GM', ky', by rw [e1]; exact x1, m1, x2, m2, m3, m4, x3, ?_, ?_⟩
  · rw [hGM']
    by_cases c : q = GM
    · rw [if_pos c]; omega
    · rw [if_neg c]; omega
  rw [← harg', ← hgr', ← hpos', ← hρ2]
  rw [← hgr'] at x6
  have gm' : GM' = GM ∧ q < GM ∨ GM' = GM + 1 ∧ q = GM := by
    by_cases c : q = GM
    · right; exact ⟨by rw [hGM', if_pos c], c⟩
    · left; exact ⟨by rw [hGM', if_neg c], by omega⟩
  have gx' : GX' = GX ∧ q < GX ∨ GX' = GX + 1 ∧ q = GX ∧ 0 < ng ∧ GX = GM := by
    by_cases c : q = GX
    · right; exact ⟨by rw [hGX', if_pos c], c, e4 c⟩
    · left; exact ⟨by rw [hGX', if_neg c], by omega⟩
  refine ⟨x4, x5, by rw [hρ2]; exact m5, by rw [hρ2, gi_si, if_pos rfl], ?_, fun r hr => ?_, fun p' hp' => ?_, x6, fun r hr => ?_, ⟨fun r hr => ?_, fun r s hr hs hc => ?_, fun p' s hp' hs => ?_⟩, fun r s hr hs => ?_, fun p' s hp' hs hu hks => ?_, fun p' s hs => by rw [hacc]; exact f13 p' s hs, fun p' hp' => ?_⟩
  · rcases f5 with ⟨a, b, c⟩ | ⟨a, b, c⟩
    · left
      exact ⟨a, by omega, by omega⟩
    · right
      exact ⟨a, by omega, Or.inr ⟨by omega, by omega⟩⟩
  · rw [go2]
    by_cases c : r = k
    · subst c
      rw [gk, if_pos rfl]
      exact ⟨by omega, rfl⟩
    · rw [go r c, if_neg c]
      have := f6 r (by omega)
      exact ⟨by omega, this.2⟩
  · have kxs : ∀ a b, KX ng σ a b → KX ng σ' a b := fun a b z => by
      unfold KX at z ⊢
      rw [x7 24 (by decide) (by decide) (by decide) (by decide), x8 3 (by decide)]
      exact z
    have kms : ∀ a b, KM ng ρ a b → KM ng ρ2 a b := fun a b z i hi => by
      rw [ga2 22 (by decide), gb2, m7 4 (by decide)]
      exact z i hi
    by_cases c : p' < GM
    · rw [kyo p' c]
      exact ⟨fun z => kxs _ _ ((f7 p' c).1 z), kms _ _ (f7 p' c).2⟩
    · have e : p' = GM := by omega
      subst e
      rw [kyn (by omega)]
      refine ⟨fun z => ?_, kms _ _ om⟩
      have e' : p' = GX := by rcases f5 with ⟨a, b, c⟩ | ⟨a, b, c⟩ <;> omega
      rw [e']
      exact kxs _ _ (ox z)
  · rw [x7 28 (by decide) (by decide) (by decide) (by decide)]
    by_cases c : r = k
    · subst c
      rw [pk, gk]
      refine ⟨hp, ?_⟩
      by_cases c : q = GM
      · rw [c, kyn c]; exact qp
      · rw [kyo q (by omega)]
        exact hQ p kk (ky q) (fun i hi => (e5 (by omega) i hi).symm) qp
    · rw [po r c, go r c, kyo _ (f6 r (by omega)).1]
      exact f9 r (by omega)
  · rw [x7 29 (by decide) (by decide) (by decide) (by decide)]
    by_cases c : r = k
    · subst c
      exact ⟨0, by decide, by rw [hcb]; rfl, fun s hs => by rw [cnt_none (ak s)]; simp⟩
    · obtain ⟨nb, y1, y2, y3⟩ := f10.1 r (by omega)
      exact ⟨nb, y1, y2, fun s hs => by rw [hcnt r s (by omega)]; exact y3 s hs⟩
  · rw [x8 4 (by decide)]
    by_cases c : r = k
    · subst c
      rw [cnt_none (ak s)] at hc
      cases hc
    · rw [hcnt r s (by omega)] at hc
      rw [ao r s c]
      exact f10.2.1 r s (by omega) hs hc
  · rw [x9, x10, hacc]
    by_cases c : p' < GX
    · rw [if_neg (fun z => by omega), if_neg (fun z => by omega)]
      exact f10.2.2 p' s c hs
    · have e : p' = GX := by omega
      have e' : q = GX := by omega
      rw [if_pos (by omega), if_pos (by omega), acc_new k (fun i hi => by have := (f6 i hi).1; omega)]
      exact ⟨rfl, rfl⟩
  · by_cases c : r = k
    · subst c
      exact ⟨fun z => by omega, fun _ => ak s⟩
    · have := f11 r s (by omega) hs
      unfold ArgE at this ⊢
      rw [ga2 21 (by decide), gb2, m7 3 (by decide), ao r s c]
      exact this
  · rw [hacc, gb2, m8]
    by_cases c : p' < GM
    · rw [if_neg (fun z => by omega)]
      exact f12 p' s c hs hu hks
    · have e : p' = GM := by omega
      have e' : q = GM := by omega
      rw [if_pos (by omega), acc_new k (fun i hi => by have := (f6 i hi).1; omega)]
  · by_cases c : p' < GM
    · obtain ⟨r, r1, r2⟩ := f14 p' c
      exact ⟨r, by omega, by rw [go r (by omega)]; exact r2⟩
    · exact ⟨k, by omega, by rw [gk]; omega⟩

