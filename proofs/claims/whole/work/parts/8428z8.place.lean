/-! groups in step: a row finds its group (own rows) -/
def ArgE (K : Nat → Nat) (arg : Nat → Nat → Option Int64) (ρ : St) (r s : Nat) : Prop := if K s = 0 then arg r s = some 0 else enc (ga ρ 21 (8 * r + s)) (gb ρ 3 (8 * r + s)) (arg r s)
/-- how many groups there are -/
def GCt (ng R GX GM : Nat) : Prop := (0 < ng ∧ GX = GM ∧ GX ≤ R) ∨ (ng = 0 ∧ GX = 1 ∧ ((R = 0 ∧ GM = 0) ∨ (0 < R ∧ GM = 1)))
/-- the groups on both sides: R rows, of the last of them (if R is k + 1) the first i slots -/
def GF (ng U : Nat) (K : Nat → Nat) (D : Nat → Bool) (Q : (Nat → Int32) → (Nat → Option Int64) → Prop) (R k i GX GM : Nat) (gr : Nat → Nat) (ky arg : Nat → Nat → Option Int64) (pos : Nat → Nat → Int32) (σ ρ : St) : Prop :=
  gi σ 19 = nI k ∧ gi σ 18 = nI GX ∧ gi ρ 17 = nI GM ∧ gi ρ 16 = nI R ∧ GCt ng R GX GM ∧
  (∀ r, r < R → gr r < GM ∧ ga ρ 20 r = nI (gr r)) ∧
  (∀ q, q < GM → (0 < ng → KX ng σ q (ky q)) ∧ KM ng ρ q (ky q)) ∧
  Chn σ gr R GX ∧
  (∀ r, r < R → ga σ 28 r = pkv (pos r) ∧ Q (pos r) (ky (gr r))) ∧
  AX K D gr arg R GX σ ∧
  (∀ r s, r < R → s < 8 → (U.testBit s = true ∧ (r < k ∨ s < i) → ArgE K arg ρ r s) ∧ (¬ (U.testBit s = true ∧ (r < k ∨ s < i)) → arg r s = none)) ∧
  (∀ q s, q < GM → s < 8 → U.testBit s = true → (K s = 2 ∨ K s = 5) → gb ρ 5 (8 * q + s) = (acc K D gr arg q s R).2) ∧
  (∀ q s, s < 8 → okF (acc K D gr arg q s R).2) ∧
  (∀ q, q < GM → ∃ r, r < R ∧ gr r = q)
theorem x_p13 (N : Nat) (hN : 100 < N) {σ : St} {gr : Nat → Nat} {k q GX : Nat} (hk : k < 512) (hG : GX < 512) (hq : q ≤ GX) (hr : gi σ 19 = nI k) (hg : gi σ 18 = nI GX) (h : Chn σ gr k GX) (hb : ∀ i, i < k → gr i < GX) :
    ∃ σ', f_G_placeRow_13 N σ (nI q) = some ((), σ') ∧ XG σ σ' ∧ gi σ' 20 = nI q ∧ gi σ' 19 = nI k ∧ gi σ' 18 = nI (if q = GX then GX + 1 else GX) ∧ Chn σ' (upF gr k q) (k + 1) (if q = GX then GX + 1 else GX) ∧ (∀ r, r ≠ 25 → r ≠ 26 → r ≠ 27 → r ≠ 30 → ga σ' r = ga σ r) ∧ (∀ r, r ≠ 5 → gb σ' r = gb σ r) ∧
      (∀ z, ga σ' 30 z = if q = GX ∧ 8 * q ≤ z ∧ z < 8 * q + 8 then 0 else ga σ 30 z) ∧ (∀ z, gb σ' 5 z = if q = GX ∧ 8 * q ≤ z ∧ z < 8 * q + 8 then 0 else gb σ 5 z) := by
  unfold f_G_placeRow_13
  rw [hg]
  by_cases c : q = GX
  · subst c
    rw [if_pos rfl]
    obtain ⟨σ1, a1, a2, a3, a4, a5, a6, a7, a8, a9⟩ := x_open N hN (σ := σ) (q := q) hG
    have ch : Chn σ1 gr k (q + 1) := by
      obtain ⟨h1, h2⟩ := h
      have f1 : ∀ z, ga σ1 25 z = if z = q then -1 else ga σ 25 z := fun z => by rw [a5, upd_at]
      refine ⟨fun p hp => ?_, fun r hr' => ?_⟩
      · by_cases e : p = q
        · subst e
          exact Or.inl ⟨fun i hi => by have := hb i hi; omega, by rw [f1, if_pos rfl]⟩
        · have := h1 p (by omega)
          unfold Fst at this ⊢
          rw [f1, if_neg e, a6 26 (by decide) (by decide)]
          exact this
      · have := h2 r hr'
        unfold Nxt at this ⊢
        rw [a6 27 (by decide) (by decide)]
        exact this
    obtain ⟨σ2, b1, b2, b3, b4, b5, b6, b7, b8⟩ := x_link N (q := q) (G := q + 1) hk (by omega) (by omega) (a4.trans hr) ch
    rw [a1, bd_eq, b1]
    refine ⟨σ2, rfl, a2.trans b2, b3, b4, by rw [if_pos rfl, b5, a3], by rw [if_pos rfl]; exact b8, fun r r1 r2 r3 r4 => by rw [b6 r r1 r2 r3, a6 r r1 r4], fun r hr' => by rw [b7, a7 r hr'], fun z => ?_, fun z => ?_⟩
    · rw [b6 30 (by decide) (by decide) (by decide), a8]
      by_cases e : 8 * q ≤ z ∧ z < 8 * q + 8
      · rw [if_pos e, if_pos ⟨rfl, e⟩]
      · rw [if_neg e, if_neg (fun z => e z.2)]
    · rw [b7, a9]
      by_cases e : 8 * q ≤ z ∧ z < 8 * q + 8
      · rw [if_pos e, if_pos ⟨rfl, e⟩]
      · rw [if_neg e, if_neg (fun z => e z.2)]
  · rw [if_neg (fun z => c (nI_j (by omega) (by omega) z)), if_neg c]
    obtain ⟨σ2, b1, b2, b3, b4, b5, b6, b7, b8⟩ := x_link N (q := q) (G := GX) hk (by omega) (by omega) hr h
    exact ⟨σ2, b1, b2, b3, b4, b5.trans hg, b8, fun r r1 r2 r3 r4 => b6 r r1 r2 r3, fun r _ => b7 r, fun z => by rw [if_neg (fun z => c z.1), b6 30 (by decide) (by decide) (by decide)], fun z => by rw [if_neg (fun z => c z.1), b7]⟩
/-- both find the same group, or open one -/
theorem g_find (N : Nat) (hN : 600 < N) {σ ρ : St} {ng k GX GM : Nat} {ky : Nat → Nat → Option Int64} {kk : Nat → Option Int64} (h4 : ng ≤ 4) (hk : k < 512) (hc : GCt ng k GX GM) (gX : gi σ 18 = nI GX) (gM : gi ρ 17 = nI GM) (gn : gi ρ 6 = nI ng) (hK : ∀ q, q < GM → (0 < ng → KX ng σ q (ky q)) ∧ KM ng ρ q (ky q)) (ox : KX ng σ GX kk ∨ ng = 0) (om : KM ng ρ GM kk) :
    ∃ q, f_G_placeRow N σ (nI ng) = f_G_placeRow_13 N σ (nI q) ∧ q ≤ GX ∧ q ≤ GM ∧ (q = GX → 0 < ng ∧ GX = GM) ∧ (q < GM → ∀ i, i < ng → ky q i = kk i) ∧ ((q < GM ∧ f_M_findGroup_74 N N ρ (nI GM) 0 = some (nI q, ρ)) ∨ (q = GM ∧ f_M_findGroup_74 N N ρ (nI GM) 0 = f_M_findGroup_186 N N ρ (nI GM) 0)) := by
  have hGM : GM ≤ 512 ∧ GX ≤ 512 := by rcases hc with ⟨a, b, c⟩ | ⟨a, b, ⟨c, e⟩ | ⟨c, e⟩⟩ <;> omega
  obtain ⟨q, m1, m2⟩ := m_find N hN (ky := ky) h4 (by omega) gn gM (fun q hq => (hK q hq).2) om
  unfold f_G_placeRow
  rcases hc with ⟨c1, c2, c3⟩ | ⟨c1, c2, c3⟩
  · subst c2
    rw [if_neg (show ¬ nI ng = 0 from fun z => by have := (nI_z (by omega)).mp z; omega)]
    have ox' : KX ng σ GX kk := by rcases ox with z | z; exact z; omega
    obtain ⟨p, p1, p2⟩ := x_keys N hN (ky := ky) h4 (show GX < 512 by omega) gX (fun q hq => (hK q hq).1 c1) ox'
    have e := grpAt_uniq p2 m1
    subst e
    rw [p1, bd_eq]
    exact ⟨p, rfl, m1.1, m1.1, fun _ => ⟨c1, rfl⟩, m1.2.2, m2⟩
  · subst c1
    rw [if_pos (show nI 0 = 0 from rfl)]
    have e : q = 0 := by
      rcases Nat.eq_zero_or_pos q with z | z
      · exact z
      · exact absurd (fun i hi => by omega) (m1.2.1 0 z)
    subst e
    exact ⟨0, rfl, by omega, by omega, fun z => by omega, fun _ i hi => by omega, m2⟩

