/-! groups stand for parts of trees (own rows) -/
theorem tru_tfg : ∀ t : Tr, tru (tfg t) ↔ tru t
  | .num _ => Iff.rfl
  | .var _ => Iff.rfl
  | .mulL _ _ => Iff.rfl
  | .mulR _ _ => Iff.rfl
  | .add (.mulL _ _) _ => Iff.rfl
  | .add (.num _) _ => Iff.rfl
  | .add (.var _) _ => Iff.rfl
  | .add (.add _ _) _ => Iff.rfl
  | .add (.mulR _ _) _ => Iff.rfl
theorem rch_bnd {L : Tr → Option (Option Int64)} {G : Tr → Prop} {Q : Nat → Prop} (hG : ∀ t, G t → ¬ L t = none) : ∀ (t : Tr), twf t → bnd G t → (∀ s, (tab t).testBit s = true → Q s) → rch L (fun _ => False) Q t
  | .num _, _, _, _ => trivial
  | .var b, _, h, _ => fun z => hG _ h z
  | .mulL c a, _, _, h => fun _ => h (c % 8) (by simp [tab, Nat.testBit_two_pow])
  | .mulR a k, w, h, g => fun z => by
    have h' : G (.mulR a k) ∨ bnd G a := h
    rcases h' with y | y
    · exact absurd z (hG _ y)
    · exact rch_bnd hG a w.2 y g
  | .add (.mulL k a) b, w, h, g => fun z => by
    have h' : G (.add (.mulL k a) b) ∨ (bnd G a ∧ bnd G b) := h
    rcases h' with y | y
    · exact absurd z (hG _ y)
    · exact ⟨rch_bnd hG a w.2.2.2.1 y.1 (fun q z => g q (by simp only [tab, Nat.testBit_or, z, Bool.true_or])), rch_bnd hG b w.2.2.2.2 y.2 (fun q z => g q (by simp only [tab, Nat.testBit_or, z, Bool.or_true]))⟩
theorem sem_L {L : Tr → Option (Option Int64)} {C A : Nat → Option Int64} (h : ∀ t, twf t → ∀ v, L t = some v → sem nL C A t = .ok v) : ∀ (t : Tr), twf t → sem L C A t = sem nL C A t
  | .num 0, w => by
    cases q : L (.num 0) with
    | some v => rw [h _ w v q]; unfold sem; rw [q]; rfl
    | none => unfold sem; rw [q]; rfl
  | .num (n + 1), w => by
    cases q : L (.num (n + 1)) with
    | some v => rw [h _ w v q]; unfold sem; rw [q]; rfl
    | none => unfold sem; rw [q]; rfl
  | .var b, w => by
    cases q : L (.var b) with
    | some v => rw [h _ w v q]; unfold sem; rw [q]; rfl
    | none => unfold sem; rw [q]; rfl
  | .mulL c a, w => by
    cases q : L (.mulL c a) with
    | some v => rw [h _ w v q]; unfold sem; rw [q]; rfl
    | none => unfold sem; rw [q]; rfl
  | .mulR a k, w => by
    have e1 : ∀ L', sem L' C A (.mulR a k) = orL (L' (.mulR a k)) (un k (sem L' C A a)) := fun _ => rfl
    cases q : L (.mulR a k) with
    | some v => rw [h _ w v q, e1, q]; rfl
    | none =>
      rw [e1, e1, q, sem_L h a w.2]
      rfl
  | .add (.mulL k a) b, w => by
    have e1 : ∀ L', sem L' C A (.add (.mulL k a) b) = orL (L' (.add (.mulL k a) b)) (bi k (sem L' C A a) (sem L' C A b)) := fun _ => rfl
    cases q : L (.add (.mulL k a) b) with
    | some v => rw [h _ w v q, e1, q]; rfl
    | none =>
      rw [e1, e1, q, sem_L h a w.2.2.2.1, sem_L h b w.2.2.2.2]
      rfl
/-- the groups, as they are when they are given -/
def GD (ng U R GX : Nat) (K : Nat → Nat) (D : Nat → Bool) (Q : (Nat → Int32) → (Nat → Option Int64) → Prop) (gr : Nat → Nat) (ky arg : Nat → Nat → Option Int64) (pos : Nat → Nat → Int32) (σ ρ : St) : Prop :=
  gi σ 18 = nI GX ∧ gi ρ 17 = nI GX ∧ GX ≤ 512 ∧ R ≤ 512 ∧ gi ρ 16 = nI R ∧
  (∀ r, r < R → gr r < 2 ^ 31 ∧ ga ρ 20 r = nI (gr r)) ∧
  (∀ q s, q < GX → s < 8 → ga σ 30 (8 * q + s) = nI (acc K D gr arg q s R).1 ∧ gb σ 5 (8 * q + s) = (acc K D gr arg q s R).2) ∧
  (∀ r s, r < R → s < 8 → U.testBit s = true → ArgE K arg ρ r s) ∧
  (∀ q s, s < 8 → okF (acc K D gr arg q s R).2) ∧
  (∀ q, q < GX → KM ng ρ q (ky q)) ∧
  (∀ q, q < GX → (ng = 0 ∧ ga σ 25 q = -1) ∨ ∃ f, f < 512 ∧ ga σ 25 q = nI f ∧ ga σ 28 f = pkv (pos f) ∧ Q (pos f) (ky q))
theorem GD.same {ng U R GX : Nat} {K : Nat → Nat} {D : Nat → Bool} {Q : (Nat → Int32) → (Nat → Option Int64) → Prop} {gr : Nat → Nat} {ky arg : Nat → Nat → Option Int64} {pos : Nat → Nat → Int32} {σ ρ σ' ρ' : St} (F : GD ng U R GX K D Q gr ky arg pos σ ρ)
    (x2 : gi σ' 18 = gi σ 18) (xa : ∀ r, 24 ≤ r → ga σ' r = ga σ r) (xb : ∀ r, 3 ≤ r → gb σ' r = gb σ r)
    (y1 : gi ρ' 17 = gi ρ 17) (y2 : gi ρ' 16 = gi ρ 16) (y3 : ga ρ' 20 = ga ρ 20) (y4 : ga ρ' 22 = ga ρ 22) (y6 : ga ρ' 21 = ga ρ 21) (y5 : gb ρ' 4 = gb ρ 4) (y7 : gb ρ' 3 = gb ρ 3) : GD ng U R GX K D Q gr ky arg pos σ' ρ' := by
  unfold GD KM ArgE
  rw [x2, xa 25 (by decide), xa 28 (by decide), xa 30 (by decide), xb 5 (by decide), y1, y2, y3, y4, y5, y6, y7]
  exact F
/-- both are ready to go through the groups -/
theorem gd_of (N : Nat) {σ ρ : St} {ng U R GX GM : Nat} {K : Nat → Nat} {D : Nat → Bool} {Q : (Nat → Int32) → (Nat → Option Int64) → Prop} {gr : Nat → Nat} {ky arg : Nat → Nat → Option Int64} {pos : Nat → Nat → Int32} (hR : R ≤ 512) (h4 : ng ≤ 4) (gn : gi ρ 6 = nI ng) (F : GF ng U K D Q R R 0 GX GM gr ky arg pos σ ρ) :
    ∃ ρ', f_M_goThroughGroups N ρ = f_M_goThroughGroups_21 N N ρ' 0 ∧ (ρ' = ρ ∨ ρ' = si ρ 17 1) ∧ GD ng U R GX K D Q gr ky arg pos σ ρ' := by
  obtain ⟨f1, f2, f3, f4, f5, f6, f7, f8, f9, f10, f11, f12, f13, f14⟩ := F
  have base : ∀ ρ', gi ρ' 17 = nI GX → gi ρ' 16 = gi ρ 16 → ga ρ' = ga ρ → gb ρ' = gb ρ → GX ≤ 512 → GM ≤ GX → (GM = GX ∨ (ng = 0 ∧ R = 0)) → GD ng U R GX K D Q gr ky arg pos σ ρ' := by
    intro ρ' e1 e2 e3 e4 e5 e6 e7
    refine ⟨f2, e1, e5, hR, e2.trans f4, fun r hr => by rw [e3]; have := f6 r hr; exact ⟨by omega, this.2⟩, f10.2.2, fun r s hr hs hu => ?_, f13, fun q hq => ?_, fun q hq => ?_⟩
    · have := (f11 r s hr hs).1 ⟨hu, Or.inl hr⟩
      unfold ArgE at this ⊢
      rw [e3, e4]
      exact this
    · rcases e7 with z | z
      · have := (f7 q (by omega)).2
        unfold KM at this ⊢
        rw [e3, e4]
        exact this
      · intro i hi; omega
    · by_cases c : q < GM
      · obtain ⟨r, r1, r2⟩ := f14 q c
        rcases f8.1 q hq with ⟨z1, z2⟩ | ⟨f, l, z1, z2, z3, z4, -⟩
        · exact absurd r2 (z1 r r1)
        · refine Or.inr ⟨f, by omega, z4, ?_⟩
          have := f9 f z1
          rw [z2] at this
          exact this
      · rcases e7 with z | z
        · omega
        · left
          refine ⟨z.1, ?_⟩
          rcases f8.1 q hq with ⟨z1, z2⟩ | ⟨f, l, z1, -⟩
          · exact z2
          · omega
  unfold f_M_goThroughGroups
  rw [gn, f3]
  rcases f5 with ⟨a, b, c⟩ | ⟨a, b, c⟩
  · rw [if_neg (show ¬ nI ng = 0 from fun z => by have := (nI_z (by omega)).mp z; omega)]
    exact ⟨ρ, rfl, Or.inl rfl, base ρ (by rw [f3, b]) rfl rfl rfl (by omega) (by omega) (Or.inl b.symm)⟩
  · rw [if_pos (show nI ng = 0 by rw [a]; rfl)]
    rcases c with ⟨c1, c2⟩ | ⟨c1, c2⟩
    · rw [if_pos (show nI GM = 0 by rw [c2]; rfl), nm_eq]
      exact ⟨_, rfl, Or.inr rfl, base _ (by rw [b]; rfl) rfl rfl rfl (by omega) (by omega) (Or.inr ⟨a, c1⟩)⟩
    · rw [if_neg (show ¬ nI GM = 0 by rw [c2]; decide)]
      exact ⟨ρ, rfl, Or.inl rfl, base ρ (by rw [f3, b, c2]) rfl rfl rfl (by omega) (by omega) (Or.inl (by omega))⟩
/-- the class enters a group -/
theorem x_ent (N : Nat) (hN : 100 < N) {σ : St} {x : Int32} {p : Nat → Int32} (hp : ∀ i, i < 3 → ((x >>> ((4 * nI i) &&& 31)) &&& 15) - 1 = p i) :
    ∃ σ', f_G_enter_32 N N σ x 0 = some ((), σ') ∧ (∀ r, gi σ' r = gi σ r) ∧ (∀ r, r ≠ 23 → ga σ' r = ga σ r) ∧ (∀ r, gb σ' r = gb σ r) ∧ ∀ i, i < 3 → ga σ' 23 i = p i := by
  have key : ∀ (d i fu : Nat) (s : St), i + d = 3 → d < fu → (∀ r, gi s r = gi σ r) → (∀ r, r ≠ 23 → ga s r = ga σ r) → (∀ r, gb s r = gb σ r) → (∀ j, j < i → ga s 23 j = p j) → ∃ σ', f_G_enter_32 N fu s x (nI i) = some ((), σ') ∧ (∀ r, gi σ' r = gi σ r) ∧ (∀ r, r ≠ 23 → ga σ' r = ga σ r) ∧ (∀ r, gb σ' r = gb σ r) ∧ ∀ i, i < 3 → ga σ' 23 i = p i := by
    intro d
    induction d with
    | zero =>
      intro i fu s hi hfu g1 g2 g3 g4
      obtain ⟨fu, rfl⟩ : ∃ q, fu = q + 1 := ⟨fu - 1, by omega⟩
      have e : i = 3 := by omega
      subst e
      refine ⟨s, ?_, g1, g2, g3, g4⟩
      show f_G_enter_32_b N (f_G_enter_32 N fu) s x (nI 3) = _
      unfold f_G_enter_32_b
      rw [if_pos (show (3 : Int32) ≤ nI 3 by decide)]
    | succ d ih =>
      intro i fu s hi hfu g1 g2 g3 g4
      obtain ⟨fu, rfl⟩ : ∃ q, fu = q + 1 := ⟨fu - 1, by omega⟩
      have e0 : f_G_enter_32 N (fu + 1) s x (nI i) = f_G_enter_32 N fu (wa s 23 (nI i) (p i)) x (nI (i + 1)) := by
        show f_G_enter_32_b N (f_G_enter_32 N fu) s x (nI i) = _
        unfold f_G_enter_32_b
        rw [if_neg (show ¬ (3 : Int32) ≤ nI i from nI_ge (b := 3) (by omega) (by decide)), ckb_nI (show i < 3 by omega) (by decide), nm_eq, nI_1, hp i (by omega)]
      rw [e0]
      refine ih (i + 1) fu _ (by omega) (by omega) g1 (fun r hr => by rw [ga_wa, if_neg hr]; exact g2 r hr) g3 (fun j hj => ?_)
      rw [ga_wa, if_pos rfl, nI_clamp (by omega), upd_at]
      by_cases c : j = i
      · rw [if_pos c, c]
      · rw [if_neg c]; exact g4 j (by omega)
  exact key 3 0 N σ (by omega) (by omega) (fun _ => rfl) (fun _ _ => rfl) (fun _ => rfl) (fun j hj => by omega)

