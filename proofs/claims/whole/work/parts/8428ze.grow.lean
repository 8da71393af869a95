/-! a run with groups: a row is taken (own rows) -/
def PK (ns : Nat) (h T : Nat → Nat) (p : Nat → Int32) : Prop := Pos3 p ∧ ∀ k, k < ns → p k = -1 ∨ ∃ r, r < h (T k) ∧ p k = nI r
def Qg (ns ng : Nat) (h T : Nat → Nat) (τ : Nat → Tr) (CP : (Nat → Int32) → Nat → Option Int64) (gT : Nat → Nat) (p : Nat → Int32) (kk : Nat → Option Int64) : Prop := PK ns h T p ∧ ∀ i, i < ng → sem nL (CP p) (fun _ => none) (τ (gT i)) = .ok (kk i)
theorem bndok_sm' {ρ ρ' : St} {τ : Nat → Tr} {ng ni : Nat} (h : SM ρ ρ') : BndOk ρ' τ (isG' ρ' τ ng) ni ↔ BndOk ρ τ (isG' ρ τ ng) ni := by
  have e1 : gi ρ' 5 = gi ρ 5 := h.1 _ (by decide)
  have e2 : ga ρ' 15 = ga ρ 15 := h.2.1 _ (by decide)
  have e3 : ga ρ' 14 = ga ρ 14 := h.2.1 _ (by decide)
  have e4 : isG' ρ' τ ng = isG' ρ τ ng := by
    funext t
    unfold isG' gE
    rw [e3]
  rw [e4]
  unfold BndOk iE
  rw [e1, e2]
/-- what stays as it is -/
def Jb (nt n m ns ng ni no U : Nat) (w h T : Nat → Nat) (τ : Nat → Tr) (K : Nat → Nat) (D : Nat → Bool) (CP : (Nat → Int32) → Nat → Option Int64) (gT : Nat → Nat) (σ ρ : St) : Prop :=
  Base nt n m ns ng ni no w h T τ σ ρ ∧ gi σ 16 = 1 ∧ gi ρ 15 = 1 ∧ late σ τ ni = U ∧ gi σ 17 = nI U ∧ (∀ s, s < m → Slt σ ρ τ n K D s) ∧ (∀ s, s < m → (ga ρ 23 s = 0 ∨ ga ρ 23 s = 1) ∧ (ga ρ 23 s = 1 ↔ U.testBit s = true)) ∧ colP ρ = CP ∧ (∀ j, j < ng → gE ρ j = gT j) ∧ BndOk ρ τ (isG' ρ τ ng) ni
def Jg (nt n m ns ng ni no U : Nat) (w h T : Nat → Nat) (τ : Nat → Tr) (K : Nat → Nat) (D : Nat → Bool) (CP : (Nat → Int32) → Nat → Option Int64) (gT : Nat → Nat) (k : Nat) (σ ρ : St) : Prop :=
  Jb nt n m ns ng ni no U w h T τ K D CP gT σ ρ ∧ gi σ 14 = 0 ∧ gi ρ 12 = 0 ∧ ∃ GX GM gr ky arg pos, GF ng U K D (Qg ns ng h T τ CP gT) k k 0 GX GM gr ky arg pos σ ρ
theorem gE_sm {ρ ρ' : St} (h : SM ρ ρ') (k : Nat) : gE ρ' k = gE ρ k := by
  unfold gE
  rw [h.2.1 14 (by decide)]
theorem Jb.same {nt n m ns ng ni no U : Nat} {w h T : Nat → Nat} {τ : Nat → Tr} {K : Nat → Nat} {D : Nat → Bool} {CP : (Nat → Int32) → Nat → Option Int64} {gT : Nat → Nat} {σ ρ σ' ρ' : St} (j : Jb nt n m ns ng ni no U w h T τ K D CP gT σ ρ) (b : Base nt n m ns ng ni no w h T τ σ' ρ') (sx : SX σ σ') (sm : SM ρ ρ') (e1 : gi σ' 16 = gi σ 16) (e2 : gi σ' 17 = gi σ 17) (e3 : gi ρ' 15 = gi ρ 15) (e4 : ga ρ' 23 = ga ρ 23) : Jb nt n m ns ng ni no U w h T τ K D CP gT σ' ρ' := by
  obtain ⟨j1, j2, j3, j4, j5, j6, j7, j8, j9, j10⟩ := j
  exact ⟨b, e1.trans j2, e3.trans j3, by rw [late_sx sx]; exact j4, e2.trans j5, fun s hs => (j6 s hs).same sx sm, by rw [e4]; exact j7, by rw [colP_sm sm]; exact j8, fun k hk => (gE_sm sm k).trans (j9 k hk), (bndok_sm' sm).mpr j10⟩
theorem Jb.gx {nt n m ns ng ni no U : Nat} {w h T : Nat → Nat} {τ : Nat → Tr} {K : Nat → Nat} {D : Nat → Bool} {CP : (Nat → Int32) → Nat → Option Int64} {gT : Nat → Nat} {σ ρ σ' ρ' : St} (j : Jb nt n m ns ng ni no U w h T τ K D CP gT σ ρ) (x : XG σ σ') (q : MGr ρ ρ') (hw : gi ρ' 14 = 0) : Jb nt n m ns ng ni no U w h T τ K D CP gT σ' ρ' :=
  j.same (j.1.gx x q hw) x.sx q.sm (x.1 _ (by decide) (by decide) (by decide)) (x.1 _ (by decide) (by decide) (by decide)) (q.1 _ (by decide) (by decide) (by decide) (by decide) (by decide)) (q.2.1 _ (by decide) (by decide) (by decide) (by decide) (by decide) (by decide))
theorem qg_congr {ns ng : Nat} {h T : Nat → Nat} {τ : Nat → Tr} {CP : (Nat → Int32) → Nat → Option Int64} {gT : Nat → Nat} (p : Nat → Int32) (a b : Nat → Option Int64) (hab : ∀ i, i < ng → a i = b i) (q : Qg ns ng h T τ CP gT p a) : Qg ns ng h T τ CP gT p b := ⟨q.1, fun i hi => by rw [← hab i hi]; exact q.2 i hi⟩
theorem g_step (N : Nat) (hN : 1100 < N) {nt n m ns ng ni no U : Nat} {w h T : Nat → Nat} {τ : Nat → Tr} {K : Nat → Nat} {D : Nat → Bool} {CP : (Nat → Int32) → Nat → Option Int64} {gT : Nat → Nat} (k : Nat) (σ ρ : St) (J : Jg nt n m ns ng ni no U w h T τ K D CP gT k σ ρ) (hk : k < 512) (hR : Rw σ ρ h ns) :
    Stp2 (Jg nt n m ns ng ni no U w h T τ K D CP gT) (Ende nt n m ns ng ni no w h τ) h ns (k + 1) (f_R_groupRow N true σ) (f_M_putInGroup N ρ) := by
  obtain ⟨j, A1, A2, GX, GM, gr, ky, arg, pos, F⟩ := J
  obtain ⟨b, j2, j3, j4, j5, j6, j7, j8, j9, j10⟩ := id j
  obtain ⟨d, hw, hgn, co, ag, hT, hL, -⟩ := id b
  obtain ⟨f1, f2, f3, f4, f5, -⟩ := id F
  have g4 := d.2.2.2.1.1
  have n60 := d.2.1.1
  have hGM : GM ≤ GX ∧ GX < 512 := by rcases f5 with ⟨a, b, c⟩ | ⟨a, b, ⟨c, e⟩ | ⟨c, e⟩⟩ <;> omega
  -- the row begins
  obtain ⟨σ1, hσ1⟩ : ∃ s, s = wa (wa (wa σ 28 (nI k) (pkv (ga σ 23))) 29 (nI k) 0) 24 (nI GX) 0 := ⟨_, rfl⟩
  have ex : f_R_groupRow N true σ = f_R_groupRow_34 N true N σ1 (nI 0) := by
    unfold f_R_groupRow f_G_isFull f_G_startRow
    rw [if_pos rfl, f1, f2, if_neg (show ¬ (512 : Int32) ≤ nI k from nI_ge (b := 512) hk (by decide)), if_pos (show nI GX < (512 : Int32) from nI_lt (b := 512) hGM.2 (by decide)), bd_eq, if_pos rfl, x_pack N (by omega), bd_eq, f1, ckb_nI hk (by decide), nm_eq, show gi (wa σ 28 (nI k) (pkv (ga σ 23))) 19 = nI k from f1, ckb_nI hk (by decide), nm_eq, show gi (wa (wa σ 28 (nI k) (pkv (ga σ 23))) 29 (nI k) 0) 18 = nI GX from f2, ckb_nI hGM.2 (by decide), nm_eq, bd_eq, ← hσ1]
    rfl
  have xg1 : XG σ σ1 := by rw [hσ1]; exact (xg_ra.trans xg_cb).trans xg_kn
  have a1 : ∀ z, ga σ1 28 z = if z = k then pkv (ga σ 23) else ga σ 28 z := fun z => by rw [hσ1, ga_wa, if_neg (by decide), ga_wa, if_neg (by decide), ga_wa, if_pos rfl, nI_clamp (by omega), upd_at]
  have a2 : ∀ z, ga σ1 29 z = if z = k then 0 else ga σ 29 z := fun z => by rw [hσ1, ga_wa, if_neg (by decide), ga_wa, if_pos rfl, nI_clamp (by omega), upd_at]; rfl
  have a3 : ∀ z, ga σ1 24 z = if z = GX then 0 else ga σ 24 z := fun z => by rw [hσ1, ga_wa, if_pos rfl, nI_clamp (by omega), upd_at]; rfl
  have a4 : ∀ r, r ≠ 28 → r ≠ 29 → r ≠ 24 → ga σ1 r = ga σ r := fun r x y z => by rw [hσ1, ga_wa, if_neg z, ga_wa, if_neg y, ga_wa, if_neg x]
  have a5 : gi σ1 = gi σ := by rw [hσ1]; rfl
  have a6 : gb σ1 = gb σ := by rw [hσ1]; rfl
  have b1 := b.gx xg1 MGr.rfl hw
  obtain ⟨σ2, ρ2, xk, mk, out⟩ := k_loop N (by omega) true b1 (hR.gx xg1 MGr.rfl) hGM.2 (show GM < 512 by omega) (by rw [a5]; exact f2) ng 0 N N σ1 ρ (fun _ => none) XKy.rfl MKy.rfl hw ⟨⟨0, by decide, by rw [a3, if_pos rfl]; rfl, fun i hi => by omega⟩, fun i hi => by omega⟩ (fun i hi => by omega) (fun i hi => by omega) (by omega) (by omega) (by omega)
  have xg2 := xg1.trans xk.1
  rw [ex]
  unfold f_M_putInGroup f_M_findGroup
  rw [f3]
  rcases out with ⟨c, c1, c2, c3, c4⟩ | ⟨w2, kk, kx, km, ks, c3, c4⟩
  · rw [c3, show f_M_findGroup_7 N N ρ (nI GM) 0 = some (0, ρ2) from c4, bd_eq, if_neg (by rw [c2]; exact c1)]
    exact ⟨c, σ2, ρ2, rfl, rfl, Or.inr ⟨c1, c2, b.gxe xg2 mk.1⟩⟩
  · rw [c3, show f_M_findGroup_7 N N ρ (nI GM) 0 = _ from c4]
    have F2 : GF ng U K D (Qg ns ng h T τ CP gT) k k 0 GX GM gr ky arg pos σ2 ρ2 := by
      refine F.start g4 (fun r => by rw [xk.2.1, a5]) (fun r x y z => by rw [xk.2.2.1 r z, a4 r x y z]) (fun z hz => by rw [xk.2.2.1 _ (by decide), a1, if_neg hz]) (fun z hz => by rw [xk.2.2.1 _ (by decide), a2, if_neg hz]) (fun z hz => by rw [xk.2.2.2.1 z hz, a3, if_neg hz]) (fun r hr => by rw [xk.2.2.2.2.1 r hr, a6]) (fun z hz => by rw [xk.2.2.2.2.2 z hz, a6]) mk
    have pkq : Qg ns ng h T τ CP gT (ga σ 23) kk := by
      refine ⟨⟨hL, fun z hz => ?_⟩, fun i hi => ?_⟩
      · rw [(hR z hz).1, ← hT z hz]
        exact (hR z hz).2
      · obtain ⟨k1, k2, k3, k4⟩ := gE_at d hi
        have ck := co.2.2.2.1 i hi
        have ab := ag.2.2 i hi
        rw [k3, oo_j (by omega)] at ck ab
        have := ks i hi
        rw [← j9 i hi, ← j8, ← this]
        refine sem_congr (P := Pc ρ w ns) (Q := fun _ => False) (fun q hq => (colP_rw hR hq).symm) (fun s z => z.elim) _ (tall_bits (d.2.1.2.2.2.2.2.2.1 _ k1).2.2.1 ck (fun s z => by rw [show tab (τ (gE ρ i)) = 0 from ab] at z; simp at z))
    have d2 := d.same xg2.sx mk.1.sm
    obtain ⟨q, σ3, ρ3, GX', GM', ky', p1, p2, p3, p4, p5, p6, p7, p8, F3⟩ := g_place N (by omega) g4 hk qg_congr F2 d2.2.2.2.1.2.2.1 (fun _ => kx) km (by rw [xk.2.2.1 _ (by decide), a1, if_pos rfl]) (by rw [xk.2.2.1 _ (by decide), a2, if_pos rfl]) pkq
    rw [p1, p2, bd_eq, bd_eq, if_pos (by rw [p5]; exact w2), p6, ckb_nI (show k < 520 by omega) (by decide), nm_eq, nm_eq, show gi (wa ρ3 20 (nI k) (nI q)) 16 = nI k from p6, nI_1]
    obtain ⟨ρ4, hρ4⟩ : ∃ s, s = si (wa ρ3 20 (nI k) (nI q)) 16 (nI (k + 1)) := ⟨_, rfl⟩
    rw [← hρ4] at F3 ⊢
    have xg3 := xg2.trans p3
    have mq4 : MGr ρ ρ4 := by rw [hρ4]; exact ((mk.1.trans p4).trans mq_go).trans mq_to
    have w4 : gi ρ4 14 = 0 := by rw [hρ4]; exact p5.trans w2
    have jb := j.gx xg3 mq4 w4
    obtain ⟨c, σ5, ρ5, z1, z2, z3, z4, z5⟩ := s_loop N hN true jb.1 (hR.gx xg3 mq4) jb.2.2.2.1 jb.2.2.2.2.1 jb.2.2.2.2.2.1 jb.2.2.2.2.2.2.1 hk (gr := upF gr k q) upF_eq m 0 N N σ3 ρ4 _ XG.rfl MGr.rfl w4 p7 F3 (by omega) (by have := d.2.1.2.1; omega) (by have := d.2.1.2.1; omega)
    rw [show f_R_groupRow_101 N true N σ3 0 = _ from z1, show f_M_putInGroup_37 N N ρ4 (nI q) (nI k) 0 = _ from z2]
    refine ⟨c, σ5, ρ5, rfl, rfl, ?_⟩
    have xg5 := xg3.trans z3
    have mq5 := mq4.trans z4
    rcases z5 with ⟨u1, u2, arg', u3⟩ | ⟨u1, u2⟩
    · exact Or.inl ⟨u1, k + 1, Nat.le_refl _, ⟨j.gx xg5 mq5 u2, (xg5.1 _ (by decide) (by decide) (by decide)).trans A1, (mq5.1 _ (by decide) (by decide) (by decide) (by decide) (by decide)).trans A2, GX', GM', _, ky', arg', _, u3⟩, hR.gx xg5 mq5⟩
    · exact Or.inr ⟨u1, u2, b.gxe xg5 mq5⟩
theorem jh_g (N : Nat) (hN : 1100 < N) {nt n m ns ng ni no U : Nat} {w h T : Nat → Nat} {τ : Nat → Tr} {K : Nat → Nat} {D : Nat → Bool} {CP : (Nat → Int32) → Nat → Option Int64} {gT : Nat → Nat} : JH N true nt n m ns ng ni no w h T τ (Jg nt n m ns ng ni no U w h T τ K D CP gT) (Ende nt n m ns ng ni no w h τ) := by
  have h2 : ∀ k σ ρ ρ' l, Jg nt n m ns ng ni no U w h T τ K D CP gT k σ ρ → MF ρ ρ' → gi ρ' 14 = 0 → Jg nt n m ns ng ni no U w h T τ K D CP gT k (wL σ l) ρ' := by
    rintro k σ ρ ρ' l ⟨j, A1, A2, GX, GM, gr, ky, arg, pos, F⟩ mf hw
    refine ⟨j.gx xg_wL mf.mq hw, A1, (mf.1 _ (by decide) (by decide) (by decide)).trans A2, GX, GM, gr, ky, arg, pos, F.same rfl rfl (fun _ _ => rfl) (fun _ _ => rfl) (mf.1 _ (by decide) (by decide) (by decide)) (mf.1 _ (by decide) (by decide) (by decide)) (mf.2.1 _ (by decide) (by decide) (by decide)) (mf.2.1 _ (by decide) (by decide) (by decide)) (mf.2.1 _ (by decide) (by decide) (by decide)) (mf.2.2 _ (by decide)) (mf.2.2 _ (by decide)) (mf.2.2 _ (by decide))⟩
  refine ⟨fun k σ ρ j => ⟨j.1.1.1, j.1.1.2.1, j.1.1.2.2.1, j.1.1.2.2.2.1, j.1.1.2.2.2.2.1, j.1.1.2.2.2.2.2.1⟩, h2, fun k σ ρ ρ' l j mf => j.1.1.ende mf, ?_, ?_, fun σ ρ e => e.1⟩
  · rintro c σ ρ k v hk hv ⟨j, A1, A2, GX, GM, gr, ky, arg, pos, F⟩
    refine ⟨j.same (j.1.at hk hv) sx_at sm_rows rfl rfl rfl (by rw [ga_wa, if_neg (by decide)]), A1, A2, GX, GM, gr, ky, arg, pos, F.same rfl rfl (fun r hr => by rw [ga_wa, if_neg (fun z => by omega)]) (fun _ _ => rfl) rfl rfl (by rw [ga_wa, if_neg (by decide)]) (by rw [ga_wa, if_neg (by decide)]) (by rw [ga_wa, if_neg (by decide)]) rfl rfl rfl⟩
  · refine take_where N (by omega) true (fun k σ ρ j => j.1.1) h2 ?_
    rintro k σ ρ J hk hR
    unfold f_R_takeRow_30 f_M_goTogether_25
    rw [if_pos (show (0 : Int32) ≤ 1 by decide), if_pos rfl, if_neg (show ¬ gi σ 16 = 0 by rw [J.1.2.1]; decide), if_pos J.1.1.2.1, if_neg (show ¬ gi ρ 15 = 0 by rw [J.1.2.2.1]; decide)]
    obtain ⟨c, σ', ρ', z1, z2, z3⟩ := g_step N hN k σ ρ J hk hR
    rw [z1, z2, bd_eq, bd_eq]
    exact ⟨c, σ', ρ', rfl, rfl, z3⟩

