/-! the keys of a row, in step (own rows) -/
theorem Base.gx {nt n m ns ng ni no : Nat} {w h T : Nat → Nat} {τ : Nat → Tr} {σ ρ σ' ρ' : St} (b : Base nt n m ns ng ni no w h T τ σ ρ) (x : XG σ σ') (q : MGr ρ ρ') (hw : gi ρ' 14 = 0) : Base nt n m ns ng ni no w h T τ σ' ρ' := by
  obtain ⟨b1, b2, b3, b4, b5, b6, b7, b8⟩ := b
  refine ⟨b1.same x.sx q.sm, hw, (q.1 _ (by decide) (by decide) (by decide) (by decide) (by decide)).trans b3, colsok_sx x.sx q.sm b4, aggok_sx x.sx b5, fun k hk => (tb_sm q.sm k).trans (b6 k hk), ?_, (x.1 _ (by decide) (by decide) (by decide)).trans b8.1, (x.1 _ (by decide) (by decide) (by decide)).trans b8.2.1, (x.1 _ (by decide) (by decide) (by decide)).trans b8.2.2.1, (q.1 _ (by decide) (by decide) (by decide) (by decide) (by decide)).trans b8.2.2.2⟩
  intro i hi
  rw [x.2.1 23 (by decide) (by decide) (by decide) (by decide) (by decide) (by decide) (by decide)]
  exact b7 i hi
theorem Base.gxe {nt n m ns ng ni no : Nat} {w h T : Nat → Nat} {τ : Nat → Tr} {σ ρ σ' ρ' : St} (b : Base nt n m ns ng ni no w h T τ σ ρ) (x : XG σ σ') (q : MGr ρ ρ') : Ende nt n m ns ng ni no w h τ σ' ρ' := by
  obtain ⟨b1, b2, b3, b4, b5, b6, b7, b8⟩ := b
  refine ⟨b1.same x.sx q.sm, ?_, (x.1 _ (by decide) (by decide) (by decide)).trans b8.1, (x.1 _ (by decide) (by decide) (by decide)).trans b8.2.1, (x.1 _ (by decide) (by decide) (by decide)).trans b8.2.2.1, (q.1 _ (by decide) (by decide) (by decide) (by decide) (by decide)).trans b8.2.2.2⟩
  intro i hi
  rw [x.2.1 23 (by decide) (by decide) (by decide) (by decide) (by decide) (by decide) (by decide)]
  exact b7 i hi
theorem Rw.gx {σ ρ σ' ρ' : St} {h : Nat → Nat} {lv : Nat} (r : Rw σ ρ h lv) (x : XG σ σ') (q : MGr ρ ρ') : Rw σ' ρ' h lv := by
  intro k hk
  rw [x.2.1 23 (by decide) (by decide) (by decide) (by decide) (by decide) (by decide) (by decide), q.2.1 19 (by decide) (by decide) (by decide) (by decide) (by decide) (by decide), tb_sm q.sm]
  exact r k hk
theorem colv_mq {ρ ρ' : St} (q : MGr ρ ρ') : colv ρ' = colv ρ := by
  funext b
  unfold colv cix tb rwn
  rw [q.2.1 19 (by decide) (by decide) (by decide) (by decide) (by decide) (by decide), q.2.1 2 (by decide) (by decide) (by decide) (by decide) (by decide) (by decide), q.2.1 11 (by decide) (by decide) (by decide) (by decide) (by decide) (by decide), q.2.2 0 (by decide) (by decide) (by decide) (by decide)]
theorem gE_mq {ρ ρ' : St} (q : MGr ρ ρ') (k : Nat) : gE ρ' k = gE ρ k := by
  unfold gE
  rw [q.2.1 14 (by decide) (by decide) (by decide) (by decide) (by decide) (by decide)]
def XKy (G : Nat) (σ σ' : St) : Prop := XG σ σ' ∧ (∀ r, gi σ' r = gi σ r) ∧ (∀ r, r ≠ 24 → ga σ' r = ga σ r) ∧ (∀ z, z ≠ G → ga σ' 24 z = ga σ 24 z) ∧ (∀ r, r ≠ 3 → gb σ' r = gb σ r) ∧ (∀ z, z < 4 * G → gb σ' 3 z = gb σ 3 z)
def MKy (G : Nat) (ρ ρ' : St) : Prop := MGr ρ ρ' ∧ (∀ r, r ≠ 19 → r ≠ 20 → r ≠ 14 → gi ρ' r = gi ρ r) ∧ (∀ r, r ≠ 24 → r ≠ 25 → r ≠ 26 → r ≠ 22 → ga ρ' r = ga ρ r) ∧ (∀ z, z < 4 * G → ga ρ' 22 z = ga ρ 22 z) ∧ (∀ r, r ≠ 6 → r ≠ 4 → gb ρ' r = gb ρ r) ∧ (∀ z, z < 4 * G → gb ρ' 4 z = gb ρ 4 z)
theorem XKy.rfl {G : Nat} {σ : St} : XKy G σ σ := ⟨XG.rfl, fun _ => Eq.refl _, fun _ _ => Eq.refl _, fun _ _ => Eq.refl _, fun _ _ => Eq.refl _, fun _ _ => Eq.refl _⟩
theorem XKy.trans {G : Nat} {a b c : St} (h : XKy G a b) (k : XKy G b c) : XKy G a c := ⟨h.1.trans k.1, fun r => (k.2.1 r).trans (h.2.1 r), fun r x => (k.2.2.1 r x).trans (h.2.2.1 r x), fun r x => (k.2.2.2.1 r x).trans (h.2.2.2.1 r x), fun r x => (k.2.2.2.2.1 r x).trans (h.2.2.2.2.1 r x), fun r x => (k.2.2.2.2.2 r x).trans (h.2.2.2.2.2 r x)⟩
theorem xky_wL {G : Nat} {σ : St} {l : Nat → Int64} : XKy G σ (wL σ l) := ⟨xg_wL, fun _ => rfl, fun _ _ => rfl, fun _ _ => rfl, fun _ _ => rfl, fun _ _ => rfl⟩
theorem MKy.rfl {G : Nat} {ρ : St} : MKy G ρ ρ := ⟨MGr.rfl, fun _ _ _ _ => Eq.refl _, fun _ _ _ _ _ => Eq.refl _, fun _ _ => Eq.refl _, fun _ _ _ => Eq.refl _, fun _ _ => Eq.refl _⟩
theorem MKy.trans {G : Nat} {a b c : St} (h : MKy G a b) (k : MKy G b c) : MKy G a c := ⟨h.1.trans k.1, fun r x y z => (k.2.1 r x y z).trans (h.2.1 r x y z), fun r x y z u => (k.2.2.1 r x y z u).trans (h.2.2.1 r x y z u), fun r x => (k.2.2.2.1 r x).trans (h.2.2.2.1 r x), fun r x y => (k.2.2.2.2.1 r x y).trans (h.2.2.2.2.1 r x y), fun r x => (k.2.2.2.2.2 r x).trans (h.2.2.2.2.2 r x)⟩
theorem MF.ky {G : Nat} {a b : St} (h : MF a b) : MKy G a b := ⟨h.mq, h.1, fun r x y z _ => h.2.1 r x y z, fun z _ => by rw [h.2.1 22 (by decide) (by decide) (by decide)], fun r x _ => h.2.2 r x, fun z _ => by rw [h.2.2 4 (by decide)]⟩
/-- a key is set, in the class -/
theorem x_key (N : Nat) {σ : St} {G i : Nat} {kk : Nat → Option Int64} {v : Option Int64} {x : Int64} (hG : G < 512) (hi : i < 4) (hg : gi σ 18 = nI G) (hk : KX i σ G kk) (hx : x = v.getD 0) :
    ∃ σ', f_G_setKey N σ (nI i) (vc (.ok v)) x = some ((), σ') ∧ XKy G σ σ' ∧ KX (i + 1) σ' G (fun j => if j = i then v else kk j) := by
  obtain ⟨⟨nb, b1, b2, b3⟩, b4⟩ := hk
  have lt : 4 * G + i < 2 ^ 31 := by omega
  obtain ⟨σ1, hσ1⟩ : ∃ s, s = wl σ 3 (nI (4 * G + i)) x := ⟨_, rfl⟩
  have k1 : ∀ z, gb σ1 3 z = if z = 4 * G + i then x else gb σ 3 z := fun z => by rw [hσ1, gb_wl, if_pos rfl, nI_clamp lt, updL_at]
  have xk1 : XKy G σ σ1 := by
    rw [hσ1]
    refine ⟨xg_ke, fun _ => rfl, fun _ _ => rfl, fun _ _ => rfl, fun r hr => by rw [gb_wl, if_neg hr], fun z hz => ?_⟩
    rw [← hσ1, k1, if_neg (by omega)]
  have e0 : f_G_setKey N σ (nI i) (vc (.ok v)) x = if vc (.ok v) = 0 then some ((), wa σ1 24 (nI G) (ga σ1 24 G ||| (1 <<< (nI i &&& 31)))) else some ((), σ1) := by
    unfold f_G_setKey
    rw [hg, nI_4, ckb_nI (show 4 * G + i < 2048 by omega) (by decide), nm_eq, ← hσ1, show gi σ1 18 = nI G by rw [hσ1]; exact hg]
    by_cases c : vc (.ok v) = 0
    · rw [if_pos c, if_pos c, ckb_nI hG (by decide), ckb_nI hG (by decide), nm_eq, nI_clamp (show G < 2 ^ 31 by omega)]
    · rw [if_neg c, if_neg c]
  rw [e0]
  have kg : ∀ j, j < i + 1 → (if j = 4 * G + i - 4 * G then x else gb σ 3 (4 * G + j)) = ((if j = i then v else kk j)).getD 0 := by
    intro j hj
    by_cases c : j = i
    · rw [if_pos (by omega), if_pos c, hx]
    · rw [if_neg (by omega), if_neg c]; exact b4 j (by omega)
  have kg2 : ∀ j, j < i + 1 → gb σ1 3 (4 * G + j) = ((if j = i then v else kk j)).getD 0 := by
    intro j hj
    rw [k1, ← kg j hj]
    by_cases c : j = i
    · rw [if_pos (by omega), if_pos (by omega)]
    · rw [if_neg (by omega), if_neg (by omega)]
  have nb1 : ga σ1 24 = ga σ 24 := by rw [hσ1]; rfl
  cases v with
  | none =>
    rw [if_pos (show vc (.ok none) = 0 from rfl)]
    obtain ⟨σ2, hσ2⟩ : ∃ s, s = wa σ1 24 (nI G) (ga σ1 24 G ||| (1 <<< (nI i &&& 31))) := ⟨_, rfl⟩
    have k2 : ∀ z, ga σ2 24 z = if z = G then nI (nb ||| 2 ^ i) else ga σ 24 z := fun z => by rw [hσ2, ga_wa, if_pos rfl, nI_clamp (by omega), upd_at, nb1, b2, sh8 i (by omega), nI_or]
    rw [← hσ2]
    refine ⟨σ2, rfl, xk1.trans ?_, ⟨nb ||| 2 ^ i, Nat.or_lt_two_pow (Nat.lt_of_lt_of_le b1 (Nat.pow_le_pow_right (by decide) (by omega))) (Nat.pow_lt_pow_right (by decide) (by omega)), by rw [k2, if_pos rfl], fun j hj => ?_⟩, fun j hj => ?_⟩
    · refine ⟨by rw [hσ2]; exact xg_kn, fun _ => by rw [hσ2]; rfl, fun r hr => by rw [hσ2, ga_wa, if_neg hr], fun z hz => by rw [k2, if_neg hz, nb1], fun r hr => by rw [hσ2]; rfl, fun z hz => by rw [hσ2]; rfl⟩
    · show (nb ||| 2 ^ i).testBit j = true ↔ (if j = i then none else kk j) = none
      rw [Nat.testBit_or, Bool.or_eq_true, Nat.testBit_two_pow, decide_eq_true_eq]
      by_cases c : j = i
      · rw [if_pos c]
        exact ⟨fun _ => rfl, fun _ => Or.inr c.symm⟩
      · rw [if_neg c]
        constructor
        · rintro (y | y)
          · exact (b3 j (by omega)).mp y
          · exact absurd y.symm c
        · intro y
          exact Or.inl ((b3 j (by omega)).mpr y)
    · have : gb σ2 3 = gb σ1 3 := by rw [hσ2]; rfl
      rw [this]
      exact kg2 j hj
  | some z =>
    rw [if_neg (show ¬ vc (.ok (some z)) = 0 from (by decide : ¬ (1 : Int32) = 0))]
    refine ⟨σ1, rfl, xk1, ⟨nb, Nat.lt_of_lt_of_le b1 (Nat.pow_le_pow_right (by decide) (by omega)), by rw [nb1]; exact b2, fun j hj => ?_⟩, kg2⟩
    show nb.testBit j = true ↔ (if j = i then some z else kk j) = none
    by_cases c : j = i
    · rw [if_pos c, c, Nat.testBit_lt_two_pow b1]
      exact ⟨fun y => (by cases y), fun y => (by cases y)⟩
    · rw [if_neg c]
      exact b3 j (by omega)
/-- a key is set, in the reference -/
theorem m_key {ρ : St} {G i : Nat} {kk : Nat → Option Int64} {v : Option Int64} (hG : G < 520) (hi : i < 4) (hk : KM i ρ G kk) (hv : Gv ρ 0 v) :
    MKy G ρ (wz (wl ρ 4 (nI (4 * G + i)) (gb ρ 6 0)) 22 (nI (4 * G + i)) (ga ρ 26 0)) ∧ KM (i + 1) (wz (wl ρ 4 (nI (4 * G + i)) (gb ρ 6 0)) 22 (nI (4 * G + i)) (ga ρ 26 0)) G (fun j => if j = i then v else kk j) := by
  have lt : 4 * G + i < 2 ^ 31 := by omega
  have fl01 : ga ρ 26 0 = 0 ∨ ga ρ 26 0 = 1 := by cases v with
    | none => exact Or.inr hv
    | some z => exact Or.inl hv.1
  obtain ⟨ρ', hρ'⟩ : ∃ s, s = wz (wl ρ 4 (nI (4 * G + i)) (gb ρ 6 0)) 22 (nI (4 * G + i)) (ga ρ 26 0) := ⟨_, rfl⟩
  rw [← hρ']
  have n1 : ∀ z, ga ρ' 22 z = if z = 4 * G + i then ga ρ 26 0 else ga ρ 22 z := fun z => by rw [hρ', ga_wz, if_pos rfl, nI_clamp lt, upd_at, nar_b fl01, ga_wl]
  have n2 : ∀ z, gb ρ' 4 z = if z = 4 * G + i then gb ρ 6 0 else gb ρ 4 z := fun z => by rw [hρ', gb_wz, gb_wl, if_pos rfl, nI_clamp lt, updL_at]
  refine ⟨⟨by rw [hρ']; exact mq_gv.trans mq_gn, fun r _ _ _ => by rw [hρ']; rfl, fun r _ _ _ hr => by rw [hρ', ga_wz, if_neg hr]; rfl, fun z hz => by rw [n1, if_neg (by omega)], fun r _ hr => by rw [hρ', gb_wz, gb_wl, if_neg hr], fun z hz => by rw [n2, if_neg (by omega)]⟩, fun j hj => ?_⟩
  rw [n1, n2]
  show enc _ _ (if j = i then v else kk j)
  by_cases c : j = i
  · rw [if_pos (by omega), if_pos (by omega), if_pos c]
    cases v with
    | none => exact Or.inl ⟨rfl, hv⟩
    | some z => exact Or.inr ⟨by rw [hv.2], hv.1⟩
  · rw [if_neg (by omega), if_neg (by omega), if_neg c]
    exact hk j (by omega)
/-- all keys of the row, or the same fault -/
theorem k_loop (N : Nat) (hN : 200 < N) (g : Bool) {nt n m ns ng ni no GX GM : Nat} {w h T : Nat → Nat} {τ : Nat → Tr} {σ0 ρ0 : St} (b : Base nt n m ns ng ni no w h T τ σ0 ρ0) (hR : Rw σ0 ρ0 h ns) (hX : GX < 512) (hM : GM < 512) (gX : gi σ0 18 = nI GX) :
    ∀ (d i fu fu' : Nat) (σ ρ : St) (kk : Nat → Option Int64), XKy GX σ0 σ → MKy GM ρ0 ρ → gi ρ 14 = 0 → KX i σ GX kk → KM i ρ GM kk → (∀ j, j < i → sem nL (colv ρ0) (fun _ => none) (τ (gE ρ0 j)) = .ok (kk j)) → i + d = ng → d < fu → d < fu' →
    ∃ σ' ρ', XKy GX σ0 σ' ∧ MKy GM ρ0 ρ' ∧ ((∃ c : Int32, ¬ c = 0 ∧ gi ρ' 14 = c ∧ f_R_groupRow_34 N g fu σ (nI i) = some (c, σ') ∧ f_M_findGroup_7 N fu' ρ (nI GM) (nI i) = some (0, ρ')) ∨
      (gi ρ' 14 = 0 ∧ ∃ kk, KX ng σ' GX kk ∧ KM ng ρ' GM kk ∧ (∀ j, j < ng → sem nL (colv ρ0) (fun _ => none) (τ (gE ρ0 j)) = .ok (kk j)) ∧ f_R_groupRow_34 N g fu σ (nI i) = (bd (f_G_placeRow N σ' (nI ng)) fun _ s6 => f_R_groupRow_101 N g N s6 0) ∧ f_M_findGroup_7 N fu' ρ (nI GM) (nI i) = f_M_findGroup_74 N N ρ' (nI GM) 0)) := by
  have n60 := b.1.2.1.1
  have g4 := b.1.2.2.2.1.1
  intro d
  induction d with
  | zero =>
    intro i fu fu' σ ρ kk xk mk hw kx km hs hi hfu hfu'
    obtain ⟨fu, rfl⟩ : ∃ q, fu = q + 1 := ⟨fu - 1, by omega⟩
    obtain ⟨fu', rfl⟩ : ∃ q, fu' = q + 1 := ⟨fu' - 1, by omega⟩
    have e : i = ng := by omega
    subst e
    have dd := b.1.same xk.1.sx mk.1.sm
    refine ⟨σ, ρ, xk, mk, Or.inr ⟨hw, kk, kx, km, hs, ?_, ?_⟩⟩
    · show f_R_groupRow_34_b N g (f_R_groupRow_34 N g fu) σ (nI i) = _
      unfold f_R_groupRow_34_b
      rw [dd.2.2.2.1.2.1, if_pos (nI_le (Nat.le_refl _) (by omega))]
    · show f_M_findGroup_7_b N (f_M_findGroup_7 N fu') ρ (nI GM) (nI i) = _
      unfold f_M_findGroup_7_b
      rw [dd.2.2.2.1.2.2.1, if_pos (nI_le (Nat.le_refl _) (by omega))]
  | succ d ih =>
    intro i fu fu' σ ρ kk xk mk hw kx km hs hi hfu hfu'
    obtain ⟨fu, rfl⟩ : ∃ q, fu = q + 1 := ⟨fu - 1, by omega⟩
    obtain ⟨fu', rfl⟩ : ∃ q, fu' = q + 1 := ⟨fu' - 1, by omega⟩
    have bb := b.gx xk.1 mk.1 hw
    obtain ⟨dd, -, hgn, co, ag, -⟩ := id bb
    have ing : i < ng := by omega
    obtain ⟨k1, k2, k3, k4⟩ := gE_at dd ing
    have ck := co.2.2.2.1 i ing
    have ab := ag.2.2 i ing
    rw [k3, oo_j (by omega)] at ck ab
    obtain ⟨r, hr, ok, hx, -, ρ1, m1, m2, m3⟩ := ev_row N hN g dd (hR.gx xk.1 mk.1) (Nat.le_refl _) k1 ck ab hgn hw
    obtain ⟨l, x1, x2, x3⟩ := hx k4
    rw [colv_mq mk.1, gE_mq mk.1] at hr
    have ex : f_R_groupRow_34 N g (fu + 1) σ (nI i) = if 0 ≤ vc r then (bd (f_G_setKey N (wL σ l) (nI i) (vc r) (l 0)) fun _ s14 => f_R_groupRow_34 N g fu s14 (nI (i + 1))) else some (vc r, wL σ l) := by
      show f_R_groupRow_34_b N g (f_R_groupRow_34 N g fu) σ (nI i) = _
      unfold f_R_groupRow_34_b
      rw [dd.2.2.2.1.2.1, if_neg (nI_ge ing (by omega)), ckb_nI (show i < 4 by omega) (by decide), nI_clamp (show i < 2 ^ 31 by omega), k3, x1, bd_eq, nI_1]
      rfl
    have em : f_M_findGroup_7 N (fu' + 1) ρ (nI GM) (nI i) = if gi ρ1 14 = 0 then f_M_findGroup_7 N fu' (wz (wl ρ1 4 (nI (4 * GM + i)) (gb ρ1 6 0)) 22 (nI (4 * GM + i)) (ga ρ1 26 0)) (nI GM) (nI (i + 1)) else some (0, ρ1) := by
      show f_M_findGroup_7_b N (f_M_findGroup_7 N fu') ρ (nI GM) (nI i) = _
      unfold f_M_findGroup_7_b
      rw [dd.2.2.2.1.2.2.1, if_neg (nI_ge ing (by omega)), ckb_nI (show i < 4 by omega) (by decide), nI_clamp (show i < 2 ^ 31 by omega), k2, m1, bd_eq, nI_1, nI_4']
      simp only [ckb_nI (show 4 * GM + i < 2080 by omega) (show 2080 < 2 ^ 31 by decide), show ∀ k : Option (Int32 × St), ckb (0 : Int32) 64 k = k from fun k => ckb_nI (j := 0) (by decide) (by decide), nm_eq, show ((0 : Int32)).toNatClampNeg = 0 from by decide]
      rfl
    rw [ex, em]
    cases r with
    | error er =>
      have hn := err_neg (ok.1 er rfl)
      have w1 : gi ρ1 14 = er := m3
      have ne : ¬ er = 0 := fun z => by have := hn.2; rw [z] at this; exact absurd this (by decide)
      refine ⟨wL σ l, ρ1, xk.trans xky_wL, mk.trans m2.ky, Or.inl ⟨er, ne, w1, ?_, ?_⟩⟩
      · rw [if_neg (show ¬ (0 : Int32) ≤ vc (.error er) from hn.1)]; rfl
      · rw [if_neg (by rw [w1]; exact ne)]
    | ok v =>
      obtain ⟨w1, w2⟩ := m3
      rw [if_pos vc_ok, if_pos w1]
      have lv : l 0 = v.getD 0 := by cases v with
        | none => exact x3 rfl
        | some z => exact x2 z rfl
      have kx' : KX i (wL σ l) GX kk := kx
      obtain ⟨σ2, y1, y2, y3⟩ := x_key N hX (show i < 4 by omega) (show gi (wL σ l) 18 = nI GX from (xk.2.1 _).trans gX) kx' lv
      have km1 : KM i ρ1 GM kk := fun j hj => by
        have := km j hj
        rw [m2.2.1 22 (by decide) (by decide) (by decide), m2.2.2 4 (by decide)]
        exact this
      obtain ⟨z1, z2⟩ := m_key (show GM < 520 by omega) (show i < 4 by omega) km1 w2
      rw [y1, bd_eq]
      refine ih (i + 1) fu fu' σ2 _ _ ((xk.trans xky_wL).trans y2) ((mk.trans m2.ky).trans z1) w1 y3 z2 (fun j hj => ?_) (by omega) (by omega) (by omega)
      show _ = Except.ok (if j = i then v else kk j)
      by_cases c : j = i
      · rw [if_pos c, c]; exact hr.symm
      · rw [if_neg c]; exact hs j (by omega)

