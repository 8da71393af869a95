/-! groups in step: all aggregates of a row (own rows) -/
theorem s_loop (N : Nat) (hN : 1100 < N) (g : Bool) {nt n m ns ng ni no U k q GX GM : Nat} {w h T : Nat → Nat} {τ : Nat → Tr} {K : Nat → Nat} {D : Nat → Bool} {Q : (Nat → Int32) → (Nat → Option Int64) → Prop} {gr : Nat → Nat} {ky : Nat → Nat → Option Int64} {pos : Nat → Nat → Int32} {σ0 ρ0 : St} (b : Base nt n m ns ng ni no w h T τ σ0 ρ0) (hR : Rw σ0 ρ0 h ns) (hU : late σ0 τ ni = U) (hu : gi σ0 17 = nI U) (hS : ∀ s, s < m → Slt σ0 ρ0 τ n K D s) (hq : ∀ s, s < m → (ga ρ0 23 s = 0 ∨ ga ρ0 23 s = 1) ∧ (ga ρ0 23 s = 1 ↔ U.testBit s = true)) (hk : k < 512) (hg : gr k = q) :
    ∀ (d i fu fu' : Nat) (σ ρ : St) (arg : Nat → Nat → Option Int64), XG σ0 σ → MGr ρ0 ρ → gi ρ 14 = 0 → gi σ 20 = nI q → GF ng U K D Q (k + 1) k i GX GM gr ky arg pos σ ρ → i + d = m → d < fu → d < fu' →
    ∃ c σ' ρ', f_R_groupRow_101 N g fu σ (nI i) = some (c, σ') ∧ f_M_putInGroup_37 N fu' ρ (nI q) (nI k) (nI i) = some ((), ρ') ∧ XG σ0 σ' ∧ MGr ρ0 ρ' ∧ ((c = 0 ∧ gi ρ' 14 = 0 ∧ ∃ arg', GF ng U K D Q (k + 1) (k + 1) 0 GX GM gr ky arg' pos σ' ρ') ∨ (¬ c = 0 ∧ gi ρ' 14 = c)) := by
  have m8 := b.1.2.1.2.1
  have U8 : U < 2 ^ 8 := by rw [← hU]; exact (x_late N (by omega) b.1).2
  intro d
  induction d with
  | zero =>
    intro i fu fu' σ ρ arg xg mq hw hc F hi hfu hfu'
    obtain ⟨fu, rfl⟩ : ∃ q, fu = q + 1 := ⟨fu - 1, by omega⟩
    obtain ⟨fu', rfl⟩ : ∃ q, fu' = q + 1 := ⟨fu' - 1, by omega⟩
    have e : i = m := by omega
    subst e
    have dd := b.1.same xg.sx mq.sm
    have F' := F.done (fun s hs => (slot_cols b.1 b.2.2.2.1 (by rw [hU]; exact hs)).1)
    refine ⟨0, si σ 19 (nI (k + 1)), ρ, ?_, ?_, xg.trans xg_rc, mq, Or.inl ⟨rfl, hw, arg, F'⟩⟩
    · show f_R_groupRow_101_b N g (f_R_groupRow_101 N g fu) σ (nI i) = _
      unfold f_R_groupRow_101_b f_G_endRow
      rw [dd.2.1.2.2.2.2.1, if_pos (nI_le (Nat.le_refl _) (by omega)), nm_eq, F.1, nI_1, bd_eq]
    · show f_M_putInGroup_37_b N (f_M_putInGroup_37 N fu') ρ (nI q) (nI k) (nI i) = _
      unfold f_M_putInGroup_37_b
      rw [dd.2.1.2.2.2.2.2.1, if_pos (nI_le (Nat.le_refl _) (by omega))]
  | succ d ih =>
    intro i fu fu' σ ρ arg xg mq hw hc F hi hfu hfu'
    obtain ⟨fu, rfl⟩ : ∃ q, fu = q + 1 := ⟨fu - 1, by omega⟩
    obtain ⟨fu', rfl⟩ : ∃ q, fu' = q + 1 := ⟨fu' - 1, by omega⟩
    have bb := b.gx xg mq hw
    have dd := bb.1
    have im : i < m := by omega
    have S := (hS i im).same xg.sx mq.sm
    have aq : ga ρ 23 = ga ρ0 23 := mq.2.1 _ (by decide) (by decide) (by decide) (by decide) (by decide) (by decide)
    have us : gi σ 17 = nI U := (xg.1 _ (by decide) (by decide) (by decide)).trans hu
    have bt := bits8 U U8 i (by omega)
    have ex : f_R_groupRow_101 N g (fu + 1) σ (nI i) = if U.testBit i = true then (bd (f_R_aggregateRow N σ (nI i)) fun r9 s10 => if r9 = 0 then f_R_groupRow_101 N g fu s10 (nI (i + 1)) else some (r9, s10)) else f_R_groupRow_101 N g fu σ (nI (i + 1)) := by
      show f_R_groupRow_101_b N g (f_R_groupRow_101 N g fu) σ (nI i) = _
      unfold f_R_groupRow_101_b f_R_groupRow_133
      rw [dd.2.1.2.2.2.2.1, if_neg (nI_ge im (by omega)), us, nI_1]
      by_cases c : U.testBit i = true
      · rw [if_pos c, if_neg (fun z => by have := bt.mp z; rw [c] at this; cases this)]
      · rw [if_neg c, if_pos (bt.mpr (by simpa using c)), if_pos rfl]
    rw [ex]
    by_cases c : U.testBit i = true
    · rw [if_pos c]
      obtain ⟨cc, σ', ρ', z1, z2, z3, z4, z5⟩ := s_step N hN bb (hR.gx xg mq) (by rw [late_sx xg.sx]; exact hU) S im c (by rw [aq, (hq i im).2.mpr c]; decide) hk hg hc F
      rw [z1, bd_eq]
      rcases z5 with ⟨u1, u2, u3, arg', u4⟩ | ⟨u1, u2, u3⟩
      · rw [if_pos u1, u3]
        exact ih (i + 1) fu fu' σ' ρ' arg' (xg.trans z2) (mq.trans z3) u2 ((z4 _).trans hc) u4 (by omega) (by omega) (by omega)
      · rw [if_neg u1, u3]
        exact ⟨cc, σ', ρ', rfl, rfl, xg.trans z2, mq.trans z3, Or.inr ⟨u1, u2⟩⟩
    · rw [if_neg c]
      have a0 : ga ρ 23 i = 0 := by
        rw [aq]
        rcases (hq i im).1 with z | z
        · exact z
        · exact absurd ((hq i im).2.mp z) c
      obtain ⟨e, a, j, cc, e1, a1, j1, ha, -⟩ := S
      have n60 := dd.2.1.1
      have em : f_M_putInGroup_37 N (fu' + 1) ρ (nI q) (nI k) (nI i) = f_M_putInGroup_37 N fu' ρ (nI q) (nI k) (nI (i + 1)) := by
        show f_M_putInGroup_37_b N (f_M_putInGroup_37 N fu') ρ (nI q) (nI k) (nI i) = _
        unfold f_M_putInGroup_37_b
        rw [dd.2.1.2.2.2.2.2.1, if_neg (nI_ge im (by omega)), ckb_nI (show i < 8 by omega) (by decide), nI_clamp (show i < 2 ^ 31 by omega), ha, ckb_nI (show e < 60 by omega) (by decide), ckb_nI (show i < 8 by omega) (by decide), if_pos a0, nI_1]
      rw [em]
      exact ih (i + 1) fu fu' σ ρ arg xg mq hw hc (F.skip c) (by omega) (by omega) (by omega)
theorem GF.start {ng U k GX GM : Nat} {K : Nat → Nat} {D : Nat → Bool} {Q : (Nat → Int32) → (Nat → Option Int64) → Prop} {gr : Nat → Nat} {ky arg : Nat → Nat → Option Int64} {pos : Nat → Nat → Int32} {σ ρ σ' ρ' : St} (F : GF ng U K D Q k k 0 GX GM gr ky arg pos σ ρ) (h4 : ng ≤ 4)
    (x1 : ∀ r, gi σ' r = gi σ r) (xa : ∀ r, r ≠ 28 → r ≠ 29 → r ≠ 24 → ga σ' r = ga σ r) (xr : ∀ z, z ≠ k → ga σ' 28 z = ga σ 28 z) (xc : ∀ z, z ≠ k → ga σ' 29 z = ga σ 29 z) (xk : ∀ z, z ≠ GX → ga σ' 24 z = ga σ 24 z) (xb : ∀ r, r ≠ 3 → gb σ' r = gb σ r) (xy : ∀ z, z < 4 * GX → gb σ' 3 z = gb σ 3 z)
    (mk : MKy GM ρ ρ') : GF ng U K D Q k k 0 GX GM gr ky arg pos σ' ρ' := by
  obtain ⟨f1, f2, f3, f4, f5, f6, f7, f8, f9, f10, f11, f12, f13, f14⟩ := F
  obtain ⟨-, y1, y2, y3, y4, y5⟩ := mk
  have hG : GM ≤ GX := by rcases f5 with ⟨a, b, c⟩ | ⟨a, b, ⟨c, e⟩ | ⟨c, e⟩⟩ <;> omega
  refine ⟨(x1 _).trans f1, (x1 _).trans f2, (y1 _ (by decide) (by decide) (by decide)).trans f3, (y1 _ (by decide) (by decide) (by decide)).trans f4, f5, fun r hr => by rw [y2 _ (by decide) (by decide) (by decide) (by decide)]; exact f6 r hr, fun p hp => ?_, ?_, fun r hr => by rw [xr r (by omega)]; exact f9 r hr, ⟨fun r hr => by rw [xc r (by omega)]; exact f10.1 r hr, fun r s hr hs hc => by rw [xb _ (by decide)]; exact f10.2.1 r s hr hs hc, fun p s hp hs => by rw [xa _ (by decide) (by decide) (by decide), xb _ (by decide)]; exact f10.2.2 p s hp hs⟩, fun r s hr hs => ?_, fun p s hp hs hu hks => by rw [y4 _ (by decide) (by decide)]; exact f12 p s hp hs hu hks, f13, f14⟩
  · obtain ⟨z1, z2⟩ := f7 p hp
    refine ⟨fun z => ?_, fun i hi => ?_⟩
    · obtain ⟨q1, q2⟩ := z1 z
      refine ⟨by rw [xk p (by omega)]; exact q1, fun i hi => by rw [xy _ (by omega)]; exact q2 i hi⟩
    · rw [y3 _ (by omega), y5 _ (by omega)]
      exact z2 i hi
  · unfold Chn Fst Nxt
    rw [xa 25 (by decide) (by decide) (by decide), xa 26 (by decide) (by decide) (by decide), xa 27 (by decide) (by decide) (by decide)]
    exact f8
  · have := f11 r s hr hs
    unfold ArgE at this ⊢
    rw [y2 _ (by decide) (by decide) (by decide) (by decide), y4 _ (by decide) (by decide)]
    exact this
/-- what a tree comes to, by the columns and aggregates that it names -/
theorem sem_congr {L : Tr → Option (Option Int64)} {C C' A A' : Nat → Option Int64} {P Q : Nat → Prop} (hC : ∀ b, P b → C b = C' b) (hA : ∀ s, Q s → A s = A' s) : ∀ (t : Tr), tall P Q t → sem L C A t = sem L C' A' t
  | .num 0, _ => rfl
  | .num (n + 1), _ => rfl
  | .var b, h => by
    show orL _ (.ok (C b)) = orL _ (.ok (C' b))
    rw [hC b h]
  | .mulL c a, h => by
    show orL _ (.ok (A (c % 8))) = orL _ (.ok (A' (c % 8)))
    rw [hA _ h.1]
  | .mulR a k, h => by
    show orL _ (un k (sem L C A a)) = orL _ (un k (sem L C' A' a))
    rw [sem_congr hC hA a h]
  | .add (.mulL k a) b, h => by
    show orL _ (bi k (sem L C A a) (sem L C A b)) = orL _ (bi k (sem L C' A' a) (sem L C' A' b))
    rw [sem_congr hC hA a h.1, sem_congr hC hA b h.2]
  | .add (.num _) _, _ => rfl
  | .add (.var _) _, _ => rfl
  | .add (.add _ _) _, _ => rfl
  | .add (.mulR _ _) _, _ => rfl
def colP (ρ : St) (p : Nat → Int32) (b : Nat) : Option Int64 := colv (sa ρ 19 p) b
theorem colP_eq {ρ : St} {p : Nat → Int32} {b : Nat} : colP ρ p b = if p (b / 4) < 0 then none else if ga ρ 2 (32 * tb ρ (b / 4) + 4 * (p (b / 4)).toNatClampNeg + b % 4) = 0 then some (gb ρ 0 (32 * tb ρ (b / 4) + 4 * (p (b / 4)).toNatClampNeg + b % 4)) else none := rfl
theorem colP_sm {ρ ρ' : St} (h : SM ρ ρ') : colP ρ' = colP ρ := by
  funext p b
  rw [colP_eq, colP_eq, tb_sm h, h.2.1 2 (by decide), h.2.2 0 (by decide)]
theorem colP_rw {σ ρ : St} {h w : Nat → Nat} {ns b : Nat} (r : Rw σ ρ h ns) (hb : Pc ρ w ns b) : colv ρ b = colP ρ (ga σ 23) b := by
  rw [colP_eq, (r (b / 4) hb.1).1]
  rfl

