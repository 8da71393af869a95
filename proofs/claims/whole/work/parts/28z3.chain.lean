/-! the class's rows, chained group by group (own rows) -/
def Nxt (σ : St) (gr : Nat → Nat) (R r : Nat) : Prop := (ga σ 27 r = -1 ∧ ∀ i, r < i → i < R → gr i ≠ gr r) ∨ ∃ r', r < r' ∧ r' < R ∧ gr r' = gr r ∧ ga σ 27 r = nI r' ∧ ∀ i, r < i → i < r' → gr i ≠ gr r
def Fst (σ : St) (gr : Nat → Nat) (R q : Nat) : Prop := ((∀ i, i < R → gr i ≠ q) ∧ ga σ 25 q = -1) ∨ ∃ f l, f < R ∧ gr f = q ∧ (∀ i, i < f → gr i ≠ q) ∧ ga σ 25 q = nI f ∧ l < R ∧ gr l = q ∧ (∀ i, l < i → i < R → gr i ≠ q) ∧ ga σ 26 q = nI l
def Chn (σ : St) (gr : Nat → Nat) (R G : Nat) : Prop := (∀ q, q < G → Fst σ gr R q) ∧ ∀ r, r < R → Nxt σ gr R r
theorem x_link (N : Nat) {σ : St} {gr : Nat → Nat} {k q G : Nat} (hk : k < 512) (hG : G ≤ 512) (hq : q < G) (hr : gi σ 19 = nI k) (h : Chn σ gr k G) :
    ∃ σ', f_G_placeRow_27 N σ (nI q) = some ((), σ') ∧ XG σ σ' ∧ gi σ' 20 = nI q ∧ gi σ' 19 = nI k ∧ gi σ' 18 = gi σ 18 ∧ (∀ r, r ≠ 25 → r ≠ 26 → r ≠ 27 → ga σ' r = ga σ r) ∧ (∀ r, gb σ' r = gb σ r) ∧ Chn σ' (upF gr k q) (k + 1) G := by
  obtain ⟨h1, h2⟩ := h
  have k31 : k < 2 ^ 31 := by omega
  have q31 : q < 2 ^ 31 := by omega
  have gne : ∀ i, i < k → upF gr k q i = gr i := fun i hi => upF_ne (by omega)
  -- the end of it
  have e65 : ∀ s : St, gi s 19 = nI k → f_G_placeRow_65 N s (nI q) = some ((), si (wa (wa s 26 (nI q) (nI k)) 27 (nI k) (-1)) 20 (nI q)) := by
    intro s hs
    unfold f_G_placeRow_65
    rw [ckb_nI (show q < 512 by omega) (by decide), hs, nm_eq, show gi (wa s 26 (nI q) (nI k)) 19 = nI k from hs, ckb_nI hk (by decide), nm_eq, nm_eq]
  unfold f_G_placeRow_27
  rw [ckb_nI (show q < 512 by omega) (by decide), nI_clamp q31, hr]
  have lr : ∀ (s : St) z, ga (si (wa (wa s 26 (nI q) (nI k)) 27 (nI k) (-1)) 20 (nI q)) 26 z = if z = q then nI k else ga s 26 z := by
    intro s z
    rw [ga_si, ga_wa, if_neg (by decide), ga_wa, if_pos rfl, nI_clamp q31, upd_at]
  have nr : ∀ (s : St) z, ga (si (wa (wa s 26 (nI q) (nI k)) 27 (nI k) (-1)) 20 (nI q)) 27 z = if z = k then -1 else ga s 27 z := by
    intro s z
    rw [ga_si, ga_wa, if_pos rfl, nI_clamp k31, upd_at, ga_wa, if_neg (show ¬ 27 = 26 by decide)]
  have fr : ∀ (s : St), ga (si (wa (wa s 26 (nI q) (nI k)) 27 (nI k) (-1)) 20 (nI q)) 25 = ga s 25 := fun s => rfl
  rcases h1 q hq with ⟨f1, f2⟩ | ⟨f, l, f1, f2, f3, f4, f5, f6, f7, f8⟩
  · rw [if_pos f2, ckb_nI (show q < 512 by omega) (by decide), nm_eq, e65 (wa σ 25 (nI q) (nI k)) hr]
    refine ⟨_, rfl, ((xg_fr.trans xg_lr).trans xg_nr).trans xg_cu, rfl, hr, rfl, fun r a b c => ?_, fun r => rfl, ?_, ?_⟩
    · rw [ga_si, ga_wa, if_neg c, ga_wa, if_neg b, ga_wa, if_neg a]
    · intro p hp
      have e1 : ga (wa σ 25 (nI q) (nI k)) 25 p = if p = q then nI k else ga σ 25 p := by rw [ga_wa, if_pos rfl, nI_clamp q31, upd_at]
      unfold Fst
      rw [lr, fr, e1]
      by_cases c : p = q
      · rw [if_pos c, if_pos c, c]
        right
        refine ⟨k, k, by omega, upF_eq, fun i hi => by rw [gne i hi]; exact f1 i hi, rfl, by omega, upF_eq, fun i a b => by omega, rfl⟩
      · rw [if_neg c, if_neg c]
        rcases h1 p hp with ⟨u1, u2⟩ | ⟨a, b, u1, u2, u3, u4, u5, u6, u7, u8⟩
        · refine Or.inl ⟨fun i hi => ?_, u2⟩
          by_cases e : i = k
          · rw [e, upF_eq]; exact fun z => c z.symm
          · rw [upF_ne e]; exact u1 i (by omega)
        · refine Or.inr ⟨a, b, by omega, by rw [gne a u1]; exact u2, fun i hi => by rw [gne i (by omega)]; exact u3 i hi, u4, by omega, by rw [gne b u5]; exact u6, fun i x y => ?_, u8⟩
          by_cases e : i = k
          · rw [e, upF_eq]; exact fun z => c z.symm
          · rw [upF_ne e]; exact u7 i x (by omega)
    · intro r hr'
      unfold Nxt
      rw [nr, show ga (wa σ 25 (nI q) (nI k)) 27 r = ga σ 27 r from rfl]
      by_cases c : r = k
      · rw [if_pos c]
        exact Or.inl ⟨rfl, fun i a b => by omega⟩
      · rw [if_neg c, upF_ne c]
        rcases h2 r (by omega) with ⟨u1, u2⟩ | ⟨r', u1, u2, u3, u4, u5⟩
        · refine Or.inl ⟨u1, fun i a b => ?_⟩
          by_cases e : i = k
          · rw [e, upF_eq]; exact fun z => f1 r (by omega) z.symm
          · rw [upF_ne e]; exact u2 i a (by omega)
        · exact Or.inr ⟨r', u1, by omega, by rw [gne r' u2]; exact u3, u4, fun i a b => by rw [gne i (by omega)]; exact u5 i a b⟩
  · rw [f4, if_neg (show ¬ nI f = -1 from nI_ne_m1 (by omega)), ckb_nI (show q < 512 by omega) (by decide), f8, ckb_nI (show l < 512 by omega) (by decide), nm_eq, e65 (wa σ 27 (nI l) (nI k)) hr]
    have l31 : l < 2 ^ 31 := by omega
    refine ⟨_, rfl, ((xg_nr.trans xg_lr).trans xg_nr).trans xg_cu, rfl, hr, rfl, fun r a b c => ?_, fun r => rfl, ?_, ?_⟩
    · rw [ga_si, ga_wa, if_neg c, ga_wa, if_neg b, ga_wa, if_neg c]
    · intro p hp
      unfold Fst
      rw [lr, fr, show ga (wa σ 27 (nI l) (nI k)) 25 p = ga σ 25 p from rfl, show ga (wa σ 27 (nI l) (nI k)) 26 p = ga σ 26 p from rfl]
      by_cases c : p = q
      · rw [if_pos c, c]
        right
        exact ⟨f, k, by omega, by rw [gne f f1]; exact f2, fun i hi => by rw [gne i (by omega)]; exact f3 i hi, f4, by omega, upF_eq, fun i a b => by omega, rfl⟩
      · rw [if_neg c]
        rcases h1 p hp with ⟨u1, u2⟩ | ⟨a, b, u1, u2, u3, u4, u5, u6, u7, u8⟩
        · refine Or.inl ⟨fun i hi => ?_, u2⟩
          by_cases e : i = k
          · rw [e, upF_eq]; exact fun z => c z.symm
          · rw [upF_ne e]; exact u1 i (by omega)
        · refine Or.inr ⟨a, b, by omega, by rw [gne a u1]; exact u2, fun i hi => by rw [gne i (by omega)]; exact u3 i hi, u4, by omega, by rw [gne b u5]; exact u6, fun i x y => ?_, u8⟩
          by_cases e : i = k
          · rw [e, upF_eq]; exact fun z => c z.symm
          · rw [upF_ne e]; exact u7 i x (by omega)
    · intro r hr'
      have e2 : ga (wa σ 27 (nI l) (nI k)) 27 r = if r = l then nI k else ga σ 27 r := by rw [ga_wa, if_pos rfl, nI_clamp l31, upd_at]
      unfold Nxt
      rw [nr, e2]
      by_cases c : r = k
      · rw [if_pos c]
        exact Or.inl ⟨rfl, fun i a b => by omega⟩
      · rw [if_neg c, upF_ne c]
        by_cases cl : r = l
        · rw [if_pos cl]
          right
          refine ⟨k, by omega, by omega, by rw [upF_eq, cl]; exact f6.symm, rfl, fun i a b => ?_⟩
          rw [gne i b, cl, f6]
          exact f7 i (by omega) b
        · rw [if_neg cl]
          rcases h2 r (by omega) with ⟨u1, u2⟩ | ⟨r', u1, u2, u3, u4, u5⟩
          · refine Or.inl ⟨u1, fun i a b => ?_⟩
            by_cases e : i = k
            · rw [e, upF_eq]
              intro z
              rcases Nat.lt_trichotomy r l with y | y | y
              · exact u2 l y f5 (f6.trans z)
              · exact cl y
              · exact f7 r y (by omega) z.symm
            · rw [upF_ne e]; exact u2 i a (by omega)
          · exact Or.inr ⟨r', u1, by omega, by rw [gne r' u2]; exact u3, u4, fun i a b => by rw [gne i (by omega)]; exact u5 i a b⟩
theorem bits8 : ∀ nb, nb < 256 → ∀ i, i < 8 → (((nI nb >>> (nI i &&& 31)) &&& 1 = 0) ↔ nb.testBit i = false) := by decide +kernel
/-- the class looks back through the rows of the group -/
theorem x_was (N : Nat) (hN : 1100 < N) {σ : St} {gr cb : Nat → Nat} {k q G s : Nat} {v : Int64} (hk : k < 512) (hG : G ≤ 512) (hq : q < G) (hs : s < 8) (hr : gi σ 19 = nI k) (hc : gi σ 20 = nI q) (hg : gr k = q) (h : Chn σ gr (k + 1) G) (hb : ∀ r, r ≤ k → cb r < 256 ∧ ga σ 29 r = nI (cb r)) (h0 : (cb k).testBit s = false) :
    ∃ r, f_G_wasCounted N σ (nI s) v = some (r, σ) ∧ (r = 0 ↔ ∀ y, y < k → gr y = q → (cb y).testBit s = true → ¬ gb σ 4 (8 * y + s) = v) := by
  obtain ⟨h1, h2⟩ := h
  have stop : ∀ (fu i : Nat), 0 < fu → i ≤ k + 1 → f_G_wasCounted_14 N fu σ (nI s) v (-1) (nI i) = some (0, σ) := by
    intro fu i hfu hi
    obtain ⟨fu, rfl⟩ : ∃ q, fu = q + 1 := ⟨fu - 1, by omega⟩
    show f_G_wasCounted_14_b N (f_G_wasCounted_14 N fu) σ (nI s) v (-1) (nI i) = _
    unfold f_G_wasCounted_14_b
    rw [if_pos (show (-1 : Int32) = -1 from rfl)]
    split <;> rfl
  have key : ∀ (d x i fu : Nat), x + d = k → i ≤ x → d + 2 < fu → gr x = q → ∃ r, f_G_wasCounted_14 N fu σ (nI s) v (nI x) (nI i) = some (r, σ) ∧ (r = 0 ↔ ∀ y, x ≤ y → y < k → gr y = q → (cb y).testBit s = true → ¬ gb σ 4 (8 * y + s) = v) := by
    intro d
    induction d using Nat.strongRecOn with
    | ind d ih =>
      intro x i fu hx hi hfu hgx
      obtain ⟨fu, rfl⟩ : ∃ q, fu = q + 1 := ⟨fu - 1, by omega⟩
      have e0 : f_G_wasCounted_14 N (fu + 1) σ (nI s) v (nI x) (nI i) = f_G_wasCounted_14_b N (f_G_wasCounted_14 N fu) σ (nI s) v (nI x) (nI i) := rfl
      obtain ⟨b1, b2⟩ := hb x (by omega)
      have bt := bits8 (cb x) b1 s hs
      rw [e0]
      unfold f_G_wasCounted_14_b f_G_wasCounted_62
      rw [hr]
      by_cases c : k ≤ i
      · rw [if_pos (nI_le c (by omega))]
        exact ⟨0, rfl, fun _ y a b => by omega, fun _ => rfl⟩
      · rw [if_neg (nI_ge (by omega) (by omega)), if_neg (show ¬ nI x = -1 from nI_ne_m1 (by omega)), ckb_nI (show x < 512 by omega) (by decide), nI_clamp (show x < 2 ^ 31 by omega), b2, ckb_nI (show x < 512 by omega) (by decide), nI_8, ckb_nI (show 8 * x + s < 4096 by omega) (by decide), nI_clamp (show 8 * x + s < 2 ^ 31 by omega), nI_1]
        simp only [cmp_eq]
        -- the rows behind
        have rest : ((cb x).testBit s = true → x < k → ¬ gb σ 4 (8 * x + s) = v) → ∃ r, f_G_wasCounted_14 N fu σ (nI s) v (ga σ 27 x) (nI (i + 1)) = some (r, σ) ∧ (r = 0 ↔ ∀ y, x ≤ y → y < k → gr y = q → (cb y).testBit s = true → ¬ gb σ 4 (8 * y + s) = v) := by
          intro nx
          rcases h2 x (by omega) with ⟨u1, u2⟩ | ⟨r', u1, u2, u3, u4, u5⟩
          · rw [u1, stop fu (i + 1) (by omega) (by omega)]
            refine ⟨0, rfl, fun _ y a b hy ht => ?_, fun _ => rfl⟩
            by_cases e : y = x
            · subst e; exact nx ht b
            · exact absurd (hy.trans hgx.symm) (u2 y (by omega) (by omega))
          · rw [u4]
            obtain ⟨r, z1, z2⟩ := ih (k - r') (by omega) r' (i + 1) fu (by omega) (by omega) (by omega) (u3.trans hgx)
            refine ⟨r, z1, z2.trans ⟨fun z y a b hy ht => ?_, fun z y a b => z y (by omega) b⟩⟩
            by_cases e : y = x
            · subst e; exact nx ht b
            · by_cases e2 : y < r'
              · exact absurd (hy.trans hgx.symm) (u5 y (by omega) e2)
              · exact z y (by omega) b hy ht
        by_cases c2 : (cb x).testBit s = true
        · have xk : x < k := by
            rcases Nat.lt_or_ge x k with z | z
            · exact z
            · have : x = k := by omega
              rw [this, h0] at c2; cases c2
          rw [if_neg (fun z => by have := bt.mp z; rw [c2] at this; cases this)]
          by_cases c3 : gb σ 4 (8 * x + s) = v
          · rw [if_pos c3]
            exact ⟨1, rfl, fun z => absurd z (by decide), fun z => absurd c3 (z x (Nat.le_refl _) xk hgx c2)⟩
          · rw [if_neg c3]
            exact rest (fun _ _ => c3)
        · rw [if_pos (bt.mpr (by cases q : (cb x).testBit s; rfl; exact absurd q c2))]
          exact rest (fun z => absurd z c2)
  unfold f_G_wasCounted
  rw [hc, ckb_nI (show q < 512 by omega) (by decide), nI_clamp (show q < 2 ^ 31 by omega)]
  rcases h1 q hq with ⟨f1, -⟩ | ⟨f, l, f1, f2, f3, f4, -⟩
  · exact absurd hg (f1 k (by omega))
  · rw [f4]
    obtain ⟨r, z1, z2⟩ := key (k - f) f 0 N (by omega) (Nat.zero_le _) (by omega) f2
    refine ⟨r, z1, z2.trans ⟨fun z y a b => ?_, fun z y a b => z y b⟩⟩
    by_cases e : f ≤ y
    · exact z y e a b
    · exact absurd b (f3 y (by omega))

