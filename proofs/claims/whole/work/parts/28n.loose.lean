/-! the class's check of loose columns (own rows) -/
def isG' (ρ : St) (τ : Nat → Tr) (ng : Nat) (t : Tr) : Prop := ∃ k, k < ng ∧ τ (gE ρ k) = t
theorem tfg_in : ∀ {s t : Tr}, twf s → twf t → tab s = 0 → tfg t = tfg s → t = s
  | .num q, t, _, v, _, h => by
    rcases tcases v with rfl | ⟨m, hm, rfl⟩ | ⟨b, hb, rfl⟩ | ⟨k, a, b, hk, rfl⟩ | ⟨k, a, hk, rfl⟩ | ⟨c, a, hc, hq, rfl⟩ <;> simp only [tfg] at h <;> first | exact h | cases h
  | .var q, t, _, v, _, h => by
    rcases tcases v with rfl | ⟨m, hm, rfl⟩ | ⟨b, hb, rfl⟩ | ⟨k, a, b, hk, rfl⟩ | ⟨k, a, hk, rfl⟩ | ⟨c, a, hc, hq, rfl⟩ <;> simp only [tfg] at h <;> first | exact h | cases h
  | .mulL c a, _, _, _, z, _ => by
    simp only [tab] at z
    exact absurd z (Nat.ne_of_gt (Nat.two_pow_pos _))
  | .mulR a k, t, w, v, z, h => by
    rcases tcases v with rfl | ⟨m, hm, rfl⟩ | ⟨b, hb, rfl⟩ | ⟨k', a', b', hk, rfl⟩ | ⟨k', a', hk, rfl⟩ | ⟨c, a', hc, hq, rfl⟩ <;> simp only [tfg] at h
    · cases h
    · cases h
    · cases h
    · cases h
    · injection h with h1 h2
      rw [tfg_in w.2 v.2 z h1, h2]
    · cases h
  | .add (.mulL k a) b, t, w, v, z, h => by
    simp only [tab, Nat.or_eq_zero_iff] at z
    rcases tcases v with rfl | ⟨m, hm, rfl⟩ | ⟨b', hb, rfl⟩ | ⟨k', a', b', hk, rfl⟩ | ⟨k', a', hk, rfl⟩ | ⟨c, a', hc, hq, rfl⟩ <;> simp only [tfg] at h
    · cases h
    · cases h
    · cases h
    · injection h with h1 h2
      injection h1 with h3 h4
      rw [h3, tfg_in w.2.2.2.1 v.2.2.2.1 z.1 h4, tfg_in w.2.2.2.2 v.2.2.2.2 z.2 h2]
    · cases h
    · cases h
theorem isG_iff {σ ρ : St} {nt n m ns ng ni no : Nat} {w h : Nat → Nat} {τ : Nat → Tr} (d : Dat σ ρ nt n m ns ng ni no w h τ) (ag : AggOk σ τ ns ng) {t : Tr} (v : twf t) : isG ρ τ ng t ↔ isG' ρ τ ng t := by
  have n60 := d.2.1.1
  constructor
  · rintro ⟨k, hk, q⟩
    obtain ⟨k1, k2, k3, -⟩ := gE_at d hk
    have z := ag.2.2 k hk
    rw [k3, oo_j (by omega)] at z
    exact ⟨k, hk, (tfg_in (d.2.1.2.2.2.2.2.2.1 _ k1).2.2.1 v z q.symm).symm⟩
  · rintro ⟨k, hk, q⟩
    exact ⟨k, hk, by rw [q]⟩
theorem bnd_congr {G G' : Tr → Prop} (hg : ∀ t, twf t → (G t ↔ G' t)) : ∀ {t : Tr}, twf t → (bnd G t ↔ bnd G' t)
  | .num _, _ => Iff.rfl
  | .var b, w => hg _ w
  | .mulL c a, w => Iff.rfl
  | .mulR a k, w => by simp only [bnd]; rw [hg _ w, bnd_congr hg w.2]
  | .add (.mulL k a) b, w => by simp only [bnd]; rw [hg _ w, bnd_congr hg w.2.2.2.1, bnd_congr hg w.2.2.2.2]
theorem sx_loose {σ : St} {f : Nat → Int32} : SX σ (sa σ 22 f) := ⟨fun _ _ => rfl, fun r h => by rw [ga_sa, if_neg (fun z => absurd h (by rw [z]; decide))], fun _ _ => rfl⟩
theorem wz_sa {σ : St} {r e : Nat} {f : Nat → Int32} {v : Int32} (he : e < 2 ^ 31) (hv : v = 0 ∨ v = 1) : wz (sa σ r f) r (nI e) v = sa σ r (upd f e v) := by
  unfold wz
  rw [sa_sa, ga_sa, if_pos rfl, nI_clamp he, nar_b hv]
theorem x_lg (N : Nat) (hN : 100 < N) {σ ρ : St} {nt n m ns ng ni no e : Nat} {w h : Nat → Nat} {τ : Nat → Tr} (d : Dat σ ρ nt n m ns ng ni no w h τ) (he : e < n) : ∃ r, f_C_isLikeGroup N σ (nI e) = some (r, σ) ∧ (r = 0 ↔ ¬ isG' ρ τ ng (τ e)) := by
  obtain ⟨hT, hE, hQ⟩ := id d
  have g4 := hQ.2.1.1
  have n60 := hE.1
  have key : ∀ (q i fu : Nat), i + q = ng → q < fu → ∃ r, f_C_isLikeGroup_2 N fu σ (nI e) (nI i) = some (r, σ) ∧ (r = 0 ↔ ∀ k, i ≤ k → k < ng → ¬ τ (gE ρ k) = τ e) := by
    intro q
    induction q with
    | zero =>
      intro i fu hi hfu
      obtain ⟨fu, rfl⟩ : ∃ q, fu = q + 1 := ⟨fu - 1, by omega⟩
      have e0 : f_C_isLikeGroup_2 N (fu + 1) σ (nI e) (nI i) = f_C_isLikeGroup_2_b N (f_C_isLikeGroup_2 N fu) σ (nI e) (nI i) := rfl
      rw [e0]
      unfold f_C_isLikeGroup_2_b
      rw [hQ.2.1.2.1, if_pos (nI_le (by omega) (by omega))]
      exact ⟨0, rfl, fun _ k h1 h2 => by omega, fun _ => rfl⟩
    | succ q ih =>
      intro i fu hi hfu
      obtain ⟨fu, rfl⟩ : ∃ q, fu = q + 1 := ⟨fu - 1, by omega⟩
      have e0 : f_C_isLikeGroup_2 N (fu + 1) σ (nI e) (nI i) = f_C_isLikeGroup_2_b N (f_C_isLikeGroup_2 N fu) σ (nI e) (nI i) := rfl
      rw [e0]
      unfold f_C_isLikeGroup_2_b f_E_isAlike
      obtain ⟨k1, k2, k3, -⟩ := gE_at d (show i < ng by omega)
      obtain ⟨l1, la, lb⟩ := (hE.2.2.2.2.2.2.1 e he).2.2.2.2.2.2.2.2.2.2.1
      obtain ⟨l2, lc, ld⟩ := (hE.2.2.2.2.2.2.1 _ k1).2.2.2.2.2.2.2.2.2.2.1
      have := la.1
      have := lc.1
      have lk : ga σ 7 e = ga σ 7 (gE ρ i) ↔ τ e = τ (gE ρ i) := by
        rw [lb, ld, nI_eq (by omega) (by omega)]
        exact (lst_iff la lc).symm
      rw [hQ.2.1.2.1, if_neg (nI_ge (by omega) (by omega)), ckb_nI (show i < 4 by omega) (by decide), nI_clamp (show i < 2 ^ 31 by omega), k3, ckb_nI (show e < 60 by omega) (by decide), ckb_nI (show gE ρ i < 60 by omega) (by decide), nI_clamp (show e < 2 ^ 31 by omega), nI_clamp (show gE ρ i < 2 ^ 31 by omega), nI_1]
      by_cases c : ga σ 7 e = ga σ 7 (gE ρ i)
      · rw [if_pos c, bd_eq, if_neg (by decide)]
        exact ⟨1, rfl, fun z => absurd z (by decide), fun z => absurd (lk.mp c).symm (z i (Nat.le_refl _) (by omega))⟩
      · rw [if_neg c, bd_eq, if_pos rfl]
        obtain ⟨r, z1, z2⟩ := ih (i + 1) fu (by omega) (by omega)
        refine ⟨r, z1, z2.trans ⟨fun z k h1 h2 => ?_, fun z k h1 h2 => z k (by omega) h2⟩⟩
        by_cases ek : k = i
        · subst ek; exact fun y => c (lk.mpr y.symm)
        · exact z k (by omega) h2
  obtain ⟨r, z1, z2⟩ := key ng 0 N (by omega) (by omega)
  refine ⟨r, z1, z2.trans ⟨fun z => fun ⟨k, hk, y⟩ => z k (by omega) hk y, fun z k _ hk y => z ⟨k, hk, y⟩⟩⟩
/-- loose by its parts -/
theorem x_il (N : Nat) {σ ρ : St} {nt n m ns ng ni no e : Nat} {w h : Nat → Nat} {τ : Nat → Tr} (d : Dat σ ρ nt n m ns ng ni no w h τ) {G : Tr → Prop} (he : e < n) (hf : ∀ i, i < e → (ga σ 22 i = 0 ↔ bnd G (τ i))) (nG : ¬ G (τ e)) : ∃ r, f_C_isLoose N σ (nI e) = some (r, σ) ∧ (r = 0 ↔ bnd G (τ e)) := by
  obtain ⟨hT, hE, hQ⟩ := id d
  have n60 := hE.1
  have hp := hE.2.2.2.2.2.2.1 e he
  have xe := hp.1
  have w' := hp.2.2.1
  have x75 : ∀ i, i < e → ∃ r, f_C_isLoose_75 N σ (nI i) = some (r, σ) ∧ (r = 0 ↔ bnd G (τ i)) := by
    intro i hi
    unfold f_C_isLoose_75
    rw [x_has_yes hE.2.2.1 (show i < n by omega) n60, bd_eq, if_neg (by decide), ckb_nI (show i < 60 by omega) (by decide), nI_clamp (by omega)]
    by_cases c : ga σ 22 i = 0
    · rw [if_pos c]; exact ⟨0, rfl, fun _ => (hf i hi).mp c, fun _ => rfl⟩
    · rw [if_neg c]; exact ⟨1, rfl, fun z => absurd z (by decide), fun z => absurd ((hf i hi).mpr z) c⟩
  have x75n : f_C_isLoose_75 N σ (-1) = some (0, σ) := by
    unfold f_C_isLoose_75
    rw [x_has_no (Or.inl (by decide)), bd_eq, if_pos rfl]
  unfold f_C_isLoose f_C_isLoose_22
  simp only [ckb_nI (show e < 60 by omega) (show 60 < 2 ^ 31 by decide), nI_clamp (show e < 2 ^ 31 by omega)]
  generalize ht : τ e = t at xe w' nG
  rcases tcases w' with rfl | ⟨q, hq, rfl⟩ | ⟨b, hb, rfl⟩ | ⟨kk, a, b, hkk, rfl⟩ | ⟨kk, a, hkk, rfl⟩ | ⟨c, a, hc, hcq, rfl⟩
  · obtain ⟨x1, x2, x3, x4⟩ := xe
    rw [x1, if_neg (by decide), if_neg (by decide), x3, x4, x_has_no (Or.inl (by decide)), bd_eq, if_pos rfl, x75n]
    exact ⟨0, rfl, fun _ => trivial, fun _ => rfl⟩
  · obtain ⟨x1, x2, x3, x4⟩ := xe
    rw [x1, if_neg (by decide), if_neg (by decide), x3, x4, x_has_no (Or.inl (by decide)), bd_eq, if_pos rfl, x75n]
    exact ⟨0, rfl, fun _ => trivial, fun _ => rfl⟩
  · rw [xe.1, if_pos rfl, if_pos rfl]
    exact ⟨1, rfl, fun z => absurd z (by decide), fun z => absurd z nG⟩
  · obtain ⟨x1, x2, i, j, hi, hj, x3, x4, x5, x6⟩ := xe
    rw [x1, if_neg (show ¬ nI kk = (15 : Int32) from k_ne (j := 15) (by omega) (by decide) (by omega)), if_neg (show ¬ nI kk = (16 : Int32) from k_ne (j := 16) (by omega) (by decide) (by omega)), x3, x4, x_has_yes hE.2.2.1 (show i < n by omega) n60, bd_eq, if_neg (by decide), ckb_nI (show i < 60 by omega) (by decide), nI_clamp (show i < 2 ^ 31 by omega)]
    have fi := hf i hi
    rw [x5] at fi
    by_cases c : ga σ 22 i = 0
    · rw [if_pos c]
      obtain ⟨r, z1, z2⟩ := x75 j hj
      rw [x6] at z2
      refine ⟨r, z1, z2.trans ?_⟩
      simp only [bnd]
      exact ⟨fun z => Or.inr ⟨fi.mp c, z⟩, fun z => by rcases z with z | z; exact absurd z nG; exact z.2⟩
    · rw [if_neg c]
      refine ⟨1, rfl, fun z => absurd z (by decide), fun z => ?_⟩
      simp only [bnd] at z
      rcases z with z | z
      · exact absurd z nG
      · exact absurd (fi.mpr z.1) c
  · obtain ⟨x1, x2, i, hi, x3, x4, x5⟩ := xe
    rw [x1, if_neg (show ¬ nI kk = (15 : Int32) from k_ne (j := 15) (by omega) (by decide) (by omega)), if_neg (show ¬ nI kk = (16 : Int32) from k_ne (j := 16) (by omega) (by decide) (by omega)), x3, x4, x_has_yes hE.2.2.1 (show i < n by omega) n60, bd_eq, if_neg (by decide), ckb_nI (show i < 60 by omega) (by decide), nI_clamp (show i < 2 ^ 31 by omega)]
    have fi := hf i hi
    rw [x5] at fi
    by_cases c : ga σ 22 i = 0
    · rw [if_pos c, x75n]
      refine ⟨0, rfl, fun _ => ?_, fun _ => rfl⟩
      simp only [bnd]
      exact Or.inr (fi.mp c)
    · rw [if_neg c]
      refine ⟨1, rfl, fun z => absurd z (by decide), fun z => ?_⟩
      simp only [bnd] at z
      rcases z with z | z
      · exact absurd z nG
      · exact absurd (fi.mpr z) c
  · rw [xe.1, if_neg (by decide), if_pos rfl, if_neg (by decide)]
    exact ⟨0, rfl, fun _ => trivial, fun _ => rfl⟩
theorem x_loose (N : Nat) (hN : 100 < N) {σ ρ : St} {nt n m ns ng ni no : Nat} {w h : Nat → Nat} {τ : Nat → Tr} (d : Dat σ ρ nt n m ns ng ni no w h τ) : ∃ r f, f_C_hasLooseColumn N σ = some (r, sa σ 22 f) ∧ (r = 0 ∨ r = 1) ∧ (r = 0 ↔ BndOk ρ τ (isG' ρ τ ng) ni) := by
  have n60 := d.2.1.1
  have i6 := d.2.2.2.2.1.1
  have second : ∀ f : Nat → Int32, (∀ i, i < n → (f i = 0 ↔ bnd (isG' ρ τ ng) (τ i))) → ∀ (q i fu : Nat), i + q = ni → q < fu → ∃ r, f_C_hasLooseColumn_48 N fu (sa σ 22 f) (nI i) = some (r, sa σ 22 f) ∧ (r = 0 ∨ r = 1) ∧ (r = 0 ↔ (∀ t, oo τ (gi ρ 5) = some t → bnd (isG' ρ τ ng) t) ∧ ∀ k, i ≤ k → k < ni → bnd (isG' ρ τ ng) (τ (iE ρ k))) := by
    intro f hf
    have dd : Dat (sa σ 22 f) ρ nt n m ns ng ni no w h τ := d.same sx_loose SM.rfl
    obtain ⟨hT, hE, hQ⟩ := id dd
    have lo : ∀ i, ga (sa σ 22 f) 22 i = f i := fun i => by rw [ga_sa, if_pos rfl]
    intro q
    induction q with
    | zero =>
      intro i fu hi hfu
      obtain ⟨fu, rfl⟩ : ∃ q, fu = q + 1 := ⟨fu - 1, by omega⟩
      have e0 : f_C_hasLooseColumn_48 N (fu + 1) (sa σ 22 f) (nI i) = f_C_hasLooseColumn_48_b N (f_C_hasLooseColumn_48 N fu) (sa σ 22 f) (nI i) := rfl
      rw [e0]
      unfold f_C_hasLooseColumn_48_b
      rw [hQ.2.2.1.2.1, if_pos (nI_le (by omega) (by omega))]
      rcases hQ.2.2.2.2.2.1 with ⟨c1, c2⟩ | ⟨j, j1, j2, j3, -⟩
      · rw [c1, c2, x_has_no (Or.inl (by decide)), bd_eq, if_pos rfl]
        exact ⟨0, rfl, Or.inl rfl, fun _ => ⟨fun t q => (by cases q), fun k h1 h2 => by omega⟩, fun _ => rfl⟩
      · rw [j2, j3, x_has_yes hE.2.2.1 j1 n60, bd_eq, if_neg (by decide), j2, ckb_nI (show j < 60 by omega) (by decide), nI_clamp (show j < 2 ^ 31 by omega), lo, oo_j (by omega)]
        by_cases c : f j = 0
        · rw [if_pos c]
          exact ⟨0, rfl, Or.inl rfl, fun _ => ⟨fun t q => (by cases q; exact (hf j j1).mp c), fun k h1 h2 => by omega⟩, fun _ => rfl⟩
        · rw [if_neg c]
          exact ⟨1, rfl, Or.inr rfl, fun z => absurd z (by decide), fun z => absurd ((hf j j1).mpr (z.1 _ rfl)) c⟩
    | succ q ih =>
      intro i fu hi hfu
      obtain ⟨fu, rfl⟩ : ∃ q, fu = q + 1 := ⟨fu - 1, by omega⟩
      have e0 : f_C_hasLooseColumn_48 N (fu + 1) (sa σ 22 f) (nI i) = f_C_hasLooseColumn_48_b N (f_C_hasLooseColumn_48 N fu) (sa σ 22 f) (nI i) := rfl
      rw [e0]
      unfold f_C_hasLooseColumn_48_b
      obtain ⟨k1, k2, k3, -⟩ := iE_at dd (show i < ni by omega)
      rw [hQ.2.2.1.2.1, if_neg (nI_ge (by omega) (by omega)), ckb_nI (show i < 6 by omega) (by decide), nI_clamp (show i < 2 ^ 31 by omega), k3, ckb_nI (show iE ρ i < 60 by omega) (by decide), nI_clamp (show iE ρ i < 2 ^ 31 by omega), lo, nI_1]
      by_cases c : f (iE ρ i) = 0
      · rw [if_pos c]
        obtain ⟨r, z1, z2, z3⟩ := ih (i + 1) fu (by omega) (by omega)
        refine ⟨r, z1, z2, z3.trans ⟨fun z => ⟨z.1, fun k h1 h2 => ?_⟩, fun z => ⟨z.1, fun k h1 h2 => z.2 k (by omega) h2⟩⟩⟩
        by_cases ek : k = i
        · subst ek; exact (hf _ k1).mp c
        · exact z.2 k (by omega) h2
      · rw [if_neg c]
        exact ⟨1, rfl, Or.inr rfl, fun z => absurd z (by decide), fun z => absurd ((hf _ k1).mpr (z.2 i (Nat.le_refl _) (by omega))) c⟩
  have first : ∀ (q i fu : Nat) (f : Nat → Int32), i + q = n → q < fu → (∀ k, k < i → (f k = 0 ↔ bnd (isG' ρ τ ng) (τ k))) → ∃ r f', f_C_hasLooseColumn_2 N fu (sa σ 22 f) (nI i) = some (r, sa σ 22 f') ∧ (r = 0 ∨ r = 1) ∧ (r = 0 ↔ BndOk ρ τ (isG' ρ τ ng) ni) := by
    intro q
    induction q with
    | zero =>
      intro i fu f hi hfu hf
      obtain ⟨fu, rfl⟩ : ∃ q, fu = q + 1 := ⟨fu - 1, by omega⟩
      have e0 : f_C_hasLooseColumn_2 N (fu + 1) (sa σ 22 f) (nI i) = f_C_hasLooseColumn_2_b N (f_C_hasLooseColumn_2 N fu) (sa σ 22 f) (nI i) := rfl
      have dd : Dat (sa σ 22 f) ρ nt n m ns ng ni no w h τ := d.same sx_loose SM.rfl
      rw [e0]
      unfold f_C_hasLooseColumn_2_b
      rw [dd.2.1.2.2.1, if_pos (nI_le (by omega) (by omega))]
      obtain ⟨r, z1, z2, z3⟩ := second f (fun k hk => hf k (by omega)) ni 0 N (by omega) (by omega)
      refine ⟨r, f, z1, z2, z3.trans ⟨fun z => ⟨z.1, fun k hk => z.2 k (by omega) hk⟩, fun z => ⟨z.1, fun k _ hk => z.2 k hk⟩⟩⟩
    | succ q ih =>
      intro i fu f hi hfu hf
      obtain ⟨fu, rfl⟩ : ∃ q, fu = q + 1 := ⟨fu - 1, by omega⟩
      have e0 : f_C_hasLooseColumn_2 N (fu + 1) (sa σ 22 f) (nI i) = f_C_hasLooseColumn_2_b N (f_C_hasLooseColumn_2 N fu) (sa σ 22 f) (nI i) := rfl
      have dd : Dat (sa σ 22 f) ρ nt n m ns ng ni no w h τ := d.same sx_loose SM.rfl
      have w' := (dd.2.1.2.2.2.2.2.2.1 i (by omega)).2.2.1
      rw [e0]
      unfold f_C_hasLooseColumn_2_b
      rw [dd.2.1.2.2.1, if_neg (nI_ge (by omega) (by omega))]
      have go : ∀ v : Int32, (v = 0 ∨ v = 1) → (v = 0 ↔ bnd (isG' ρ τ ng) (τ i)) → ∃ r f', (ckb (nI i) 60 <| nm (wz (sa σ 22 f) 22 (nI i) v) fun s => f_C_hasLooseColumn_2 N fu s (nI i + 1)) = some (r, sa σ 22 f') ∧ (r = 0 ∨ r = 1) ∧ (r = 0 ↔ BndOk ρ τ (isG' ρ τ ng) ni) := by
        intro v hv hb
        rw [ckb_nI (show i < 60 by omega) (by decide), nm_eq, wz_sa (by omega) hv, nI_1]
        refine ih (i + 1) fu (upd f i v) (by omega) (by omega) (fun k hk => ?_)
        rw [upd_at]
        by_cases ek : k = i
        · rw [if_pos ek, ek]; exact hb
        · rw [if_neg ek]; exact hf k (by omega)
      obtain ⟨r, z1, z2⟩ := x_lg N hN dd (show i < n by omega)
      rw [z1, bd_eq]
      by_cases c : r = 0
      · rw [if_pos c]
        obtain ⟨r2, y1, y2⟩ := x_il N dd (G := isG' ρ τ ng) (show i < n by omega) (fun k hk => by rw [ga_sa, if_pos rfl]; exact hf k hk) (z2.mp c)
        rw [y1, bd_eq]
        by_cases c2 : r2 = 0
        · rw [if_pos c2]
          exact go 0 (Or.inl rfl) ⟨fun _ => y2.mp c2, fun _ => rfl⟩
        · rw [if_neg c2]
          exact go 1 (Or.inr rfl) ⟨fun z => absurd z (by decide), fun z => absurd (y2.mpr z) c2⟩
      · rw [if_neg c]
        refine go 0 (Or.inl rfl) ⟨fun _ => bnd_G w' ?_, fun _ => rfl⟩
        exact Classical.not_not.mp (fun z => c (z2.mpr z))
  obtain ⟨r, f, z⟩ := first n 0 N (ga σ 22) (by omega) (by omega) (fun k hk => by omega)
  rw [sa_self] at z
  exact ⟨r, f, z⟩

