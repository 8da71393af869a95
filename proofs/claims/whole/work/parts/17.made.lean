/-! one expression more on both sides (own rows) -/
def madd (ρ : St) (n : Nat) (k a b : Int32) (v : Int64) (f sz wg : Int32) (l : Nat) : St := si (wa (mad ρ n k a b v f sz wg) 9 (nI n) (nI l)) 1 (nI (n + 1))
theorem grow (N : Nat) (hN : 60 < N) {σ ρ σ0 ρ0 : St} {n m m' : Nat} {τ : Nat → Tr} {t : Tr} {k a b km am bm f sz wg : Int32} {v vm : Int64} (h : IvE σ ρ n m τ) (hn : n < 60) (gX : AgX σ σ0 n m m') (gM : AgM ρ ρ0 n m m') (w : twf t) (s60 : tsz t ≤ 60) (hm8 : m' ≤ 8)
    (hmm : (m' = m ∧ ∀ c x, t ≠ .mulL c x) ∨ (m' = m + 1 ∧ ga ρ0 10 m = nI n ∧ ∃ c x, t = .mulL c x))
    (hk : k = nI (kd t)) (hv : v = dt t) (ha : RF τ n a (tc1 t)) (hb : RF τ n b (tc2 t))
    (hg : ∀ c x, t = .mulL c x → c % 8 = m ∧ ga σ0 10 m = nI (c / 8 % 8) ∧ ga σ0 12 m = (if c / 64 = 1 ∧ c / 8 % 8 ≠ 0 then 1 else 0) ∧ ga σ0 11 m = a)
    (hM : ME (mad ρ0 n km am bm vm f sz wg) (up τ n t) n t) (hsz : sz = nI (tsz t)) (hwg : wg = if tab t = 0 then 0 else 1) (o : Option (Int32 × St)) (ho : (∀ z, z ≤ n → Okm (mad ρ0 n km am bm vm f sz wg) n z) → Mends ρ0 n km am bm vm f sz wg o) :
    ∃ l l', f_E_add N σ0 k v a b = some (nI n, xadd σ0 n k v a b (nI (tsz t)) (nI (tcb t)) (nI (tab t)) (nI l)) ∧ o = some (nI n, madd ρ0 n km am bm vm f sz wg l') ∧ IvE (xadd σ0 n k v a b (nI (tsz t)) (nI (tcb t)) (nI (tab t)) (nI l)) (madd ρ0 n km am bm vm f sz wg l') (n + 1) m' (up τ n t) := by
  obtain ⟨l, f1, f2, f3⟩ := grow_X N hN h hn gX w hk hv ha hb hg
  obtain ⟨q1, q2⟩ := grow_M h hn gM w hM
  obtain ⟨l', f4, f5⟩ := q2 o (ho q1)
  refine ⟨l, l', f1, f4, ?_⟩
  obtain ⟨g1, g2, g3, g4, g5⟩ := gX
  obtain ⟨i1, i2, i3, i4, i5⟩ := gM
  have hm : m ≤ m' := by rcases hmm with q | q <;> omega
  obtain ⟨n1, n2, n3, n4, n5, n6, n7⟩ := xad_n (σ := σ0) (k := k) (a := a) (b := b) (v := v) (p := nI (tsz t)) (cb := nI (tcb t)) (ab := nI (tab t)) hn
  obtain ⟨r1, r2, r3, r4, r5, r6, r7⟩ := mad_n (ρ := ρ0) (k := km) (a := am) (b := bm) (v := vm) (f := f) (sz := sz) (wg := wg) hn
  refine ivE_grow h hn hm hm8 ?_ ?_ ?_ ?_ rfl rfl g2 i2 ?_ ?_
  · intro e he
    obtain ⟨p1, p2, p3, p4, p5, p6, p7⟩ := xad_lt (σ := σ0) (k := k) (a := a) (b := b) (v := v) (p := nI (tsz t)) (cb := nI (tcb t)) (ab := nI (tab t)) hn he
    refine ⟨p1.trans ?_, p2.trans ?_, p3.trans ?_, p4.trans ?_, p5.trans ?_, p6.trans ?_, p7.trans ?_, (upd_lt (f := ga σ0 7) (x := nI l) hn he).trans ?_⟩
    · exact congrFun (g3 _ (by decide) (by decide) (by decide)) e
    · exact congrFun (congrFun g4 _) e
    · exact congrFun (g3 _ (by decide) (by decide) (by decide)) e
    · exact congrFun (g3 _ (by decide) (by decide) (by decide)) e
    · exact congrFun (g3 _ (by decide) (by decide) (by decide)) e
    · exact congrFun (g3 _ (by decide) (by decide) (by decide)) e
    · exact congrFun (g3 _ (by decide) (by decide) (by decide)) e
    · exact congrFun (g3 _ (by decide) (by decide) (by decide)) e
  · exact fun s hs => g5 s hs
  · intro e he
    obtain ⟨p1, p2, p3, p4, p5, p6, p7⟩ := mad_lt (ρ := ρ0) (k := km) (a := am) (b := bm) (v := vm) (f := f) (sz := sz) (wg := wg) hn he
    refine ⟨p1.trans ?_, p2.trans ?_, p3.trans ?_, p4.trans ?_, p5.trans ?_, p6.trans ?_, p7.trans ?_, (upd_lt (f := ga ρ0 9) (x := nI l') hn he).trans ?_⟩
    · exact congrFun (i3 _ (by decide)) e
    · exact congrFun (congrFun i4 _) e
    · exact congrFun (i3 _ (by decide)) e
    · exact congrFun (i3 _ (by decide)) e
    · exact congrFun (i3 _ (by decide)) e
    · exact congrFun (i3 _ (by decide)) e
    · exact congrFun (i3 _ (by decide)) e
    · exact congrFun (i3 _ (by decide)) e
  · exact i5
  · unfold IvX
    rw [up_n]
    refine ⟨XE_mono (m := 8) rfl rfl rfl rfl (fun _ _ => rfl) (fun _ _ => rfl) (fun _ _ => rfl) (fun _ _ => rfl) (fun c a _ => by omega) f3, ME_mono (m := 8) rfl rfl rfl rfl rfl (fun _ _ => rfl) (fun _ _ => rfl) (fun c a _ => by omega) hM, w, s60, ?_, n5, r6.trans hsz, n6, n7, ?_, ⟨l, f2, upd_n hn⟩, ⟨l', f5, upd_n hn⟩⟩
    · intro c x q
      have := (hg c x q).1
      rcases hmm with z | z
      · exact absurd q (z.2 c x)
      · omega
    · show ga (mad ρ0 n km am bm vm f sz wg) 8 n = _
      rw [r7, hwg, nar_b]
      by_cases c : tab t = 0
      · rw [if_pos c]; exact Or.inl rfl
      · rw [if_neg c]; exact Or.inr rfl
  · intro s h1 h2
    rcases hmm with z | ⟨z1, z2, c, x, z3⟩
    · omega
    · have : s = m := by omega
      subst this
      exact ⟨z2, c, x, (hg c x z3).1, z3⟩
theorem agX_refl {σ ρ : St} {n m : Nat} {τ : Nat → Tr} (h : IvE σ ρ n m τ) : AgX σ σ n m m := ⟨h.2.2.1, h.2.2.2.2.1, fun _ _ _ _ => rfl, rfl, fun _ _ => ⟨rfl, rfl, rfl⟩⟩
theorem agM_refl {σ ρ : St} {n m : Nat} {τ : Nat → Tr} (h : IvE σ ρ n m τ) : AgM ρ ρ n m m := ⟨h.2.2.2.1, h.2.2.2.2.2.1, fun _ _ => rfl, rfl, fun _ _ => rfl⟩
/-- room: by counts and by parts -/
theorem x_room {N : Nat} {σ ρ : St} {n m : Nat} {τ : Nat → Tr} {x y : Int32} {o q : Option Tr} (h : IvE σ ρ n m τ) (hx : RF τ n x o) (hy : RF τ n y q) : f_E_hasRoom N σ x y = some (if n < 60 ∧ 1 + os tsz o + os tsz q ≤ 60 then 1 else 0, σ) := by
  obtain ⟨h60, h8, e1, e2, e3, e4, hp, hs⟩ := h
  have pa : ∀ (x : Int32) (o : Option Tr), RF τ n x o → atI (ga σ 6) 0 x = nI (os tsz o) ∧ os tsz o ≤ 60 := by
    intro x o q
    cases o with
    | none => rw [show x = -1 from q]; exact ⟨rfl, by simp [os]⟩
    | some a =>
      obtain ⟨i, q1, q2, q3⟩ := q
      rw [q2, atI_yes (by omega), (hp i q1).2.2.2.2.2.1, q3]
      refine ⟨rfl, ?_⟩
      rw [← q3]
      exact (hp i q1).2.2.2.1
  unfold f_E_hasRoom
  rw [e1]
  by_cases c : n < 60
  · rw [if_neg (show ¬ (60 : Int32) ≤ nI n from nI_ge (b := 60) c (by decide)), x_partsOf e1 h60 (rf_n (Nat.le_refl _) hx), bd_eq, x_partsOf e1 h60 (rf_n (Nat.le_refl _) hy), bd_eq, (pa x o hx).1, (pa y q hy).1, show (1 : Int32) = nI 1 from rfl, nI_add, nI_add]
    have := (pa x o hx).2
    have := (pa y q hy).2
    by_cases d : 1 + os tsz o + os tsz q ≤ 60
    · rw [if_neg (show ¬ (60 : Int32) < nI _ from nI_nlt (a := 60) d (by decide)), if_pos ⟨c, d⟩]
    · rw [if_pos (show (60 : Int32) < nI _ from nI_lt (a := 60) (by omega) (by omega)), if_neg (fun z => d z.2)]
  · rw [if_pos (show (60 : Int32) ≤ nI n from nI_le (a := 60) (by omega) (by omega)), if_neg (fun z => c z.1)]
theorem s_constant (N : Nat) (hN : 60 < N) {σ ρ : St} {n m : Nat} {τ : Nat → Tr} (h : IvE σ ρ n m τ) (x : Int64) (f : Int32) (hf : f = 0 ∨ f = 1) :
    (∃ r, f_Q_constant N σ x f = some (r, σ) ∧ f_M_constant N ρ x f = some (r, ρ)) ∨
    (∃ t k v cb ab l l', f_Q_constant N σ x f = some (nI n, xadd σ n k v (-1) (-1) (nI (tsz t)) cb ab l) ∧ f_M_constant N ρ x f = some (nI n, madd ρ n 20 0 0 x f 1 0 l') ∧ IvE (xadd σ n k v (-1) (-1) (nI (tsz t)) cb ab l) (madd ρ n 20 0 0 x f 1 0 l') (n + 1) m (up τ n t)) := by
  unfold f_Q_constant f_M_constant
  rw [x_out, bd_eq, m_within, bd_eq]
  by_cases ok : okz x
  · rw [if_pos ok, if_pos rfl, if_neg (show ¬ (if (-1000000000000 : Int64) ≤ x ∧ x ≤ 1000000000000 then (1 : Int32) else 0) = 0 by rw [if_pos ok]; decide), x_room (o := none) (q := none) h rfl rfl, bd_eq, ite10, h.2.2.2.1]
    by_cases c : n < 60
    · right
      rw [if_pos (show n < 60 ∧ 1 + os tsz none + os tsz none ≤ 60 from ⟨c, by simp [os]⟩), if_neg (show ¬ nI n = (60 : Int32) from fun z => by have := (nI_eq (b := 60) (by omega) (by decide)).mp z; omega)]
      rcases hf with rfl | rfl
      · rw [if_pos rfl]
        have wf : twf (.num (cn x + 1)) := ⟨cn_lt x, by rw [vl_cn]; exact ok⟩
        obtain ⟨l, l', f1, f2, f3⟩ := grow N hN (t := .num (cn x + 1)) (k := 13) (v := x) (a := -1) (b := -1) (km := 20) (am := 0) (bm := 0) (vm := x) (f := 0) (sz := 1) (wg := 0) h c (agX_refl h) (agM_refl h) wf (by simp [tsz]) h.2.1 (Or.inl ⟨rfl, fun _ _ z => by cases z⟩) rfl (vl_cn x).symm rfl rfl (fun _ _ z => by cases z)
          (by obtain ⟨r1, r2, r3, r4, r5, r6, r7⟩ := mad_n (ρ := ρ) (k := 20) (a := 0) (b := 0) (v := x) (f := 0) (sz := 1) (wg := 0) c; exact ⟨r1, r5, by rw [r2]⟩) (by simp [tsz]; rfl) (by simp [tab]) (f_M_make N ρ 20 0 0 x 0) (fun ok => m_make_leaf N hN h.2.2.2.1 c (Or.inl rfl) ok)
        exact ⟨.num (cn x + 1), 13, x, _, _, _, l', by rw [f1, bd_eq], by rw [f2, bd_eq], f3⟩
      · rw [if_neg (by decide)]
        have wf : twf (.num 0) := trivial
        obtain ⟨l, l', f1, f2, f3⟩ := grow N hN (t := .num 0) (k := 14) (v := 0) (a := -1) (b := -1) (km := 20) (am := 0) (bm := 0) (vm := x) (f := 1) (sz := 1) (wg := 0) h c (agX_refl h) (agM_refl h) wf (by simp [tsz]) h.2.1 (Or.inl ⟨rfl, fun _ _ z => by cases z⟩) rfl rfl rfl rfl (fun _ _ z => by cases z)
          (by obtain ⟨r1, r2, r3, r4, r5, r6, r7⟩ := mad_n (ρ := ρ) (k := 20) (a := 0) (b := 0) (v := x) (f := 1) (sz := 1) (wg := 0) c; exact ⟨r1, r5⟩) (by simp [tsz]; rfl) (by simp [tab]) (f_M_make N ρ 20 0 0 x 1) (fun ok => m_make_leaf N hN h.2.2.2.1 c (Or.inl rfl) ok)
        exact ⟨.num 0, 14, 0, _, _, _, l', by rw [f1, bd_eq], by rw [f2, bd_eq], f3⟩
    · left
      have : n = 60 := by have := h.1; omega
      rw [if_neg (show ¬ (n < 60 ∧ 1 + os tsz none + os tsz none ≤ 60) from fun z => c z.1), if_pos (show nI n = (60 : Int32) by rw [this]; rfl)]
      exact ⟨-104, rfl, rfl⟩
  · left
    rw [if_neg ok, if_neg (by decide), if_pos (show (if (-1000000000000 : Int64) ≤ x ∧ x ≤ 1000000000000 then (1 : Int32) else 0) = 0 by rw [if_neg ok])]
    exact ⟨-102, rfl, rfl⟩

