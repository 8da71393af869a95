/-! what is bound, on both sides (own rows) -/
theorem m_ib (N : Nat) (hN : 100 < N) {σ ρ0 : St} {nt n m ns ng ni no : Nat} {w h : Nat → Nat} {τ : Nat → Tr} (d : Dat σ ρ0 nt n m ns ng ni no w h τ) : ∀ (s fu : Nat) (l : List Nat) (ρ : St) (x2 : Int32), MO ρ0 ρ → (∀ e, e ∈ l → e < n) → Sk (ga ρ 24) l → gi ρ 19 = nI l.length → szs τ l ≤ s → s ≤ 60 → s < fu → (x2 = 0 ∨ x2 = 1) →
    ∃ r ρ', f_M_isBound_12 N fu ρ x2 = some (r, ρ') ∧ MO ρ0 ρ' ∧ (r = 0 ∨ r = 1) ∧ (r = 1 ↔ x2 = 1 ∧ ∀ e, e ∈ l → bnd (isG ρ0 τ ng) (τ e)) := by
  intro s
  induction s with
  | zero =>
    intro fu l ρ x2 mo hn hk ho hs h60 hfu hx
    have : l = [] := by
      cases l with
      | nil => rfl
      | cons x l => have := tsz_pos (τ x); simp only [szs] at hs; omega
    subst this
    obtain ⟨fu, rfl⟩ : ∃ q, fu = q + 1 := ⟨fu - 1, by omega⟩
    have e0 : f_M_isBound_12 N (fu + 1) ρ x2 = f_M_isBound_12_b N (f_M_isBound_12 N fu) ρ x2 := rfl
    rw [e0]
    unfold f_M_isBound_12_b
    rw [ho, if_pos (show nI ([] : List Nat).length ≤ 0 by decide), ckt_b hx]
    exact ⟨x2, ρ, rfl, mo, hx, fun z => ⟨z, fun e he => (by cases he)⟩, fun z => z.1⟩
  | succ s ih =>
    intro fu l ρ x2 mo hn hk ho hs h60 hfu hx
    obtain ⟨fu, rfl⟩ : ∃ q, fu = q + 1 := ⟨fu - 1, by omega⟩
    have e0 : f_M_isBound_12 N (fu + 1) ρ x2 = f_M_isBound_12_b N (f_M_isBound_12 N fu) ρ x2 := rfl
    rw [e0]
    unfold f_M_isBound_12_b
    cases l with
    | nil =>
      rw [ho, if_pos (show nI ([] : List Nat).length ≤ 0 by decide), ckt_b hx]
      exact ⟨x2, ρ, rfl, mo, hx, fun z => ⟨z, fun e he => (by cases he)⟩, fun z => z.1⟩
    | cons e l =>
      simp only [szs] at hs
      have len := szs_len (τ := τ) l
      have ps := tsz_pos (τ e)
      have he : e < n := hn e (List.mem_cons_self)
      have hn' : ∀ e, e ∈ l → e < n := fun e q => hn e (List.mem_cons_of_mem _ q)
      have ho : gi ρ 19 = nI (l.length + 1) := ho
      obtain ⟨hk1, hk2⟩ := hk
      rw [ho, if_neg (show ¬ nI (l.length + 1) ≤ 0 from nI_nle (by omega) (by omega)), nI_pred, nm_eq]
      obtain ⟨ρ1, hρ1⟩ : ∃ ρ1, ρ1 = si ρ 19 (nI l.length) := ⟨_, rfl⟩
      rw [← hρ1]
      have mo1 : MO ρ0 ρ1 := by rw [hρ1]; exact mo.trans mo_open
      have o1 : gi ρ1 19 = nI l.length := by rw [hρ1]; rfl
      have a1 : ga ρ1 24 l.length = nI e := by rw [hρ1]; exact hk1
      have k1 : Sk (ga ρ1 24) l := by rw [hρ1]; exact hk2
      have d1 := dat_mo d mo1
      obtain ⟨hT, hE, hQ⟩ := id d1
      have n60 := hE.1
      have hp := hE.2.2.2.2.2.2.1 e he
      have me := hp.2.1
      have w' := hp.2.2.1
      have ge : ∀ k, gE ρ1 k = gE ρ0 k := by
        intro k
        unfold gE
        rw [mo1.2.1 14 (by decide) (by decide)]
      simp only [o1, ckb_nI (show l.length < 64 by omega) (show 64 < 2 ^ 31 by decide), nI_clamp (show l.length < 2 ^ 31 by omega), a1, ckb_nI (show e < 60 by omega) (show 60 < 2 ^ 31 by decide), nI_clamp (show e < 2 ^ 31 by omega)]
      have fin : ∀ (ρ2 : St) (l2 : List Nat) (y : Int32), MO ρ0 ρ2 → (∀ e, e ∈ l2 → e < n) → Sk (ga ρ2 24) l2 → gi ρ2 19 = nI l2.length → szs τ l2 ≤ s → (y = 0 ∨ y = 1) → ((y = 1 ∧ ∀ q, q ∈ l2 → bnd (isG ρ0 τ ng) (τ q)) ↔ (x2 = 1 ∧ ∀ q, q ∈ e :: l → bnd (isG ρ0 τ ng) (τ q))) → ∃ r ρ', f_M_isBound_12 N fu ρ2 y = some (r, ρ') ∧ MO ρ0 ρ' ∧ (r = 0 ∨ r = 1) ∧ (r = 1 ↔ x2 = 1 ∧ ∀ q, q ∈ e :: l → bnd (isG ρ0 τ ng) (τ q)) := by
        intro ρ2 l2 y q1 q2 q3 q4 q5 q6 q7
        obtain ⟨r, ρ', z1, z2, z3, z4⟩ := ih fu l2 ρ2 y q1 q2 q3 q4 q5 (by omega) (by omega) q6
        exact ⟨r, ρ', z1, z2, z3, z4.trans q7⟩
      obtain ⟨r3, g1, g2⟩ := m_gl N hN d1 he
      rw [g1, bd_eq]
      rcases g2 with ⟨rfl, ng'⟩ | ⟨k, hk, rfl, lk, -⟩
      · rw [if_neg (show ¬ (0 : Int32) ≤ -1 by decide)]
        have nG : ¬ isG ρ0 τ ng (τ e) := fun ⟨k, hk, z⟩ => ng' k hk (by rw [ge]; exact z)
        generalize ht : τ e = t at me w' ps nG
        have hs : tsz t + szs τ l ≤ s + 1 := by rw [← ht]; exact hs
        have all : (∀ q, q ∈ e :: l → bnd (isG ρ0 τ ng) (τ q)) ↔ (bnd (isG ρ0 τ ng) t ∧ ∀ q, q ∈ l → bnd (isG ρ0 τ ng) (τ q)) := by
          rw [← ht]
          exact List.forall_mem_cons
        rcases tcases w' with rfl | ⟨q, hq, rfl⟩ | ⟨b, hb, rfl⟩ | ⟨kk, a, b, hkk, rfl⟩ | ⟨kk, a, hkk, rfl⟩ | ⟨c, a, hc, hcq, rfl⟩
        · rw [if_neg (show ¬ (30 : Int32) ≤ ga ρ1 3 e by rw [me.1]; decide), if_pos me.1]
          exact fin ρ1 l x2 mo1 hn' k1 o1 (by omega) hx (by rw [all]; simp [bnd])
        · rw [if_neg (show ¬ (30 : Int32) ≤ ga ρ1 3 e by rw [me.1]; decide), if_pos me.1]
          exact fin ρ1 l x2 mo1 hn' k1 o1 (by omega) hx (by rw [all]; simp [bnd])
        · rw [if_neg (show ¬ (30 : Int32) ≤ ga ρ1 3 e by rw [me.1]; decide), if_neg (show ¬ ga ρ1 3 e = 20 by rw [me.1]; decide), if_pos me.1]
          exact fin ρ1 l 0 mo1 hn' k1 o1 (by omega) (Or.inl rfl) ⟨fun z => absurd z.1 (by decide), fun z => absurd (all.mp z.2).1 nG⟩
        · obtain ⟨m1, m2, i, j, hi, hj, m3, m4, m5, m6⟩ := me
          have sz : tsz (two kk a b) = 1 + tsz a + tsz b := by simp only [tsz]
          rw [m1, if_neg (show ¬ (30 : Int32) ≤ nI kk from nI_ge (b := 30) (by omega) (by decide)), if_neg (show ¬ nI kk = (20 : Int32) from k_ne (j := 20) (by omega) (by decide) (by omega)), if_neg (show ¬ nI kk = (21 : Int32) from k_ne (j := 21) (by omega) (by decide) (by omega)), m3, m_push (by omega) o1, bd_eq, m_two, bd_eq, if_pos (show nI kk ≤ (10 : Int32) from nI_le (b := 10) hkk (by decide)), if_neg (show ¬ (1 : Int32) = 0 by decide)]
          have sj : ga (phs ρ1 l.length (nI i)) 5 e = nI j := m4
          rw [sj, m_push (k := l.length + 1) (by omega) rfl, bd_eq]
          refine fin _ (j :: i :: l) x2 ((mo1.trans mo_phs).trans mo_phs) ?_ (Sk_push (l := i :: l) (by simp only [List.length_cons]; omega) (Sk_push (by omega) k1)) rfl ?_ hx ?_
          · intro q hq
            simp only [List.mem_cons] at hq
            rcases hq with rfl | rfl | hq
            · omega
            · omega
            · exact hn' q hq
          · simp only [szs]
            rw [m5, m6]
            omega
          · rw [all]
            simp only [List.forall_mem_cons, m5, m6, bnd]
            constructor
            · rintro ⟨z1, z2, z3, z4⟩; exact ⟨z1, Or.inr ⟨z3, z2⟩, z4⟩
            · rintro ⟨z1, z2, z4⟩
              rcases z2 with z2 | ⟨z3, z2⟩
              · exact absurd z2 nG
              · exact ⟨z1, z2, z3, z4⟩
        · obtain ⟨m1, m2, i, hi, m3, m5⟩ := me
          have sz : tsz (one kk a) = 1 + tsz a := by simp only [tsz]
          rw [m1, if_neg (show ¬ (30 : Int32) ≤ nI kk from nI_ge (b := 30) (by omega) (by decide)), if_neg (show ¬ nI kk = (20 : Int32) from k_ne (j := 20) (by omega) (by decide) (by omega)), if_neg (show ¬ nI kk = (21 : Int32) from k_ne (j := 21) (by omega) (by decide) (by omega)), m3, m_push (by omega) o1, bd_eq, m_two, bd_eq, if_neg (show ¬ nI kk ≤ (10 : Int32) from nI_ge (a := 10) (by omega) (by omega)), if_pos rfl]
          refine fin _ (i :: l) x2 (mo1.trans mo_phs) ?_ (Sk_push (by omega) k1) rfl ?_ hx ?_
          · intro q hq
            simp only [List.mem_cons] at hq
            rcases hq with rfl | hq
            · omega
            · exact hn' q hq
          · simp only [szs]
            rw [m5]
            omega
          · rw [all]
            simp only [List.forall_mem_cons, m5, bnd]
            constructor
            · rintro ⟨z1, z2, z3⟩; exact ⟨z1, Or.inr z2, z3⟩
            · rintro ⟨z1, z2, z3⟩
              rcases z2 with z2 | z2
              · exact absurd z2 nG
              · exact ⟨z1, z2, z3⟩
        · obtain ⟨m1, m2, m9, i, hi, m3, m5⟩ := me
          rw [m1, if_pos (show (30 : Int32) ≤ nI (30 + c / 8 % 8) from nI_le (a := 30) (by omega) (by omega))]
          exact fin ρ1 l x2 mo1 hn' k1 o1 (by omega) hx (by rw [all]; simp [bnd])
      · have ng4 := hQ.2.1.1
        rw [if_pos (show (0 : Int32) ≤ nI k from nI_pos' (by omega))]
        refine fin ρ1 l x2 mo1 hn' k1 o1 (by omega) hx ?_
        rw [List.forall_mem_cons]
        have : bnd (isG ρ0 τ ng) (τ e) := bnd_G w' ⟨k, hk, by rw [← ge]; exact lk⟩
        exact ⟨fun z => ⟨z.1, this, z.2⟩, fun z => ⟨z.1, z.2.2⟩⟩
theorem m_bound (N : Nat) (hN : 100 < N) {σ ρ : St} {nt n m ns ng ni no j : Nat} {w h : Nat → Nat} {τ : Nat → Tr} (d : Dat σ ρ nt n m ns ng ni no w h τ) (hj : j < n) : ∃ r ρ', f_M_isBound N ρ (nI j) = some (r, ρ') ∧ MO ρ ρ' ∧ (r = 0 ∨ r = 1) ∧ (r = 1 ↔ bnd (isG ρ τ ng) (τ j)) := by
  have hp := d.2.1.2.2.2.2.2.2.1 j hj
  have n60 := d.2.1.1
  have e0 : f_M_isBound N ρ (nI j) = f_M_isBound_12 N N (phs (si ρ 19 0) 0 (nI j)) 1 := by
    unfold f_M_isBound
    rw [nm_eq, m_push (k := 0) (by decide) (show gi (si ρ 19 0) 19 = nI 0 from rfl), bd_eq]
  rw [e0]
  have mo1 : MO ρ (phs (si ρ 19 0) 0 (nI j)) := mo_open.trans mo_phs
  obtain ⟨r, ρ', z1, z2, z3, z4⟩ := m_ib N hN d 60 N [j] (phs (si ρ 19 0) 0 (nI j)) 1 mo1 (fun e q => by simp only [List.mem_singleton] at q; omega) (Sk_push (l := []) (by decide) trivial) rfl (by simp only [szs]; have := hp.2.2.2.1; omega) (Nat.le_refl _) (by omega) (Or.inr rfl)
  refine ⟨r, ρ', z1, z2, z3, z4.trans ?_⟩
  simp only [true_and, List.mem_singleton, forall_eq]
/-- the k-th item's expression -/
def iE (ρ : St) (k : Nat) : Nat := (ga ρ 15 k).toNatClampNeg
theorem iE_at {σ ρ : St} {nt n m ns ng ni no k : Nat} {w h : Nat → Nat} {τ : Nat → Tr} (d : Dat σ ρ nt n m ns ng ni no w h τ) (hk : k < ni) : iE ρ k < n ∧ ga ρ 15 k = nI (iE ρ k) ∧ ga σ 17 k = nI (iE ρ k) ∧ ¬ tru (τ (iE ρ k)) := by
  obtain ⟨j, j1, j2, j3, j4⟩ := d.2.2.2.2.1.2.2.2 k hk
  have n60 := d.2.1.1
  have : iE ρ k = j := by unfold iE; rw [j3, nI_clamp (by omega)]
  rw [this]
  exact ⟨j1, j3, j2, j4⟩
/-- all of the having and of the items is bound -/
def BndOk (ρ : St) (τ : Nat → Tr) (G : Tr → Prop) (ni : Nat) : Prop := (∀ t, oo τ (gi ρ 5) = some t → bnd G t) ∧ ∀ k, k < ni → bnd G (τ (iE ρ k))
theorem m_b26 (N : Nat) (hN : 100 < N) {σ ρ0 : St} {nt n m ns ng ni no : Nat} {w h : Nat → Nat} {τ : Nat → Tr} (d : Dat σ ρ0 nt n m ns ng ni no w h τ) : ∀ (q i fu : Nat) (ρ : St) (x : Int32), MO ρ0 ρ → i + q = ni → q < fu → (x = 0 ∨ x = 1) → ∃ r ρ', f_M_areAllBound_26 N fu ρ x (nI i) = some (r, ρ') ∧ MO ρ0 ρ' ∧ (r = 0 ∨ r = 1) ∧ (r = 1 ↔ x = 1 ∧ ∀ k, i ≤ k → k < ni → bnd (isG ρ0 τ ng) (τ (iE ρ0 k))) := by
  intro q
  induction q with
  | zero =>
    intro i fu ρ x mo hi hfu hx
    obtain ⟨fu, rfl⟩ : ∃ q, fu = q + 1 := ⟨fu - 1, by omega⟩
    have e0 : f_M_areAllBound_26 N (fu + 1) ρ x (nI i) = f_M_areAllBound_26_b N (f_M_areAllBound_26 N fu) ρ x (nI i) := rfl
    obtain ⟨hT, hE, hQ⟩ := dat_mo d mo
    have i6 := hQ.2.2.1.1
    rw [e0]
    unfold f_M_areAllBound_26_b
    rw [hQ.2.2.1.2.2.1, if_pos (nI_le (by omega) (by omega)), ckt_b hx]
    exact ⟨x, ρ, rfl, mo, hx, fun z => ⟨z, fun k h1 h2 => by omega⟩, fun z => z.1⟩
  | succ q ih =>
    intro i fu ρ x mo hi hfu hx
    obtain ⟨fu, rfl⟩ : ∃ q, fu = q + 1 := ⟨fu - 1, by omega⟩
    have e0 : f_M_areAllBound_26 N (fu + 1) ρ x (nI i) = f_M_areAllBound_26_b N (f_M_areAllBound_26 N fu) ρ x (nI i) := rfl
    have dd := dat_mo d mo
    obtain ⟨hT, hE, hQ⟩ := id dd
    have i6 := hQ.2.2.1.1
    rw [e0]
    unfold f_M_areAllBound_26_b
    rw [hQ.2.2.1.2.2.1, if_neg (nI_ge (by omega) (by omega)), nI_1]
    by_cases c : x = 0
    · rw [if_pos c]
      obtain ⟨r, ρ', z1, z2, z3, z4⟩ := ih (i + 1) fu ρ 0 mo (by omega) (by omega) (Or.inl rfl)
      exact ⟨r, ρ', z1, z2, z3, z4.trans ⟨fun z => absurd z.1 (by decide), fun z => absurd z.1 (by rw [c]; decide)⟩⟩
    · have x1 : x = 1 := by rcases hx with z | z; exact absurd z c; exact z
      obtain ⟨j1, j2, -, -⟩ := iE_at dd (show i < ni by omega)
      have ie : iE ρ i = iE ρ0 i := by unfold iE; rw [mo.2.1 15 (by decide) (by decide)]
      have ge : isG ρ τ ng = isG ρ0 τ ng := by
        funext t
        unfold isG gE
        rw [mo.2.1 14 (by decide) (by decide)]
      rw [if_neg c, ckb_nI (show i < 6 by omega) (by decide), nI_clamp (show i < 2 ^ 31 by omega), j2]
      obtain ⟨r1, ρ1, y1, y2, y3, y4⟩ := m_bound N hN dd j1
      rw [y1, bd_eq]
      rw [ge, ie] at y4
      by_cases c1 : r1 = 0
      · rw [if_pos c1]
        obtain ⟨r, ρ', z1, z2, z3, z4⟩ := ih (i + 1) fu ρ1 0 (mo.trans y2) (by omega) (by omega) (Or.inl rfl)
        refine ⟨r, ρ', z1, z2, z3, z4.trans ⟨fun z => absurd z.1 (by decide), fun z => ?_⟩⟩
        have := y4.mpr (z.2 i (Nat.le_refl _) (by omega))
        rw [c1] at this
        exact absurd this (by decide)
      · have r11 : r1 = 1 := by rcases y3 with z | z; exact absurd z c1; exact z
        rw [if_neg c1]
        obtain ⟨r, ρ', z1, z2, z3, z4⟩ := ih (i + 1) fu ρ1 1 (mo.trans y2) (by omega) (by omega) (Or.inr rfl)
        refine ⟨r, ρ', z1, z2, z3, z4.trans ⟨fun z => ⟨x1, fun k h1 h2 => ?_⟩, fun z => ⟨rfl, fun k h1 h2 => z.2 k (by omega) h2⟩⟩⟩
        by_cases e : k = i
        · subst e; exact y4.mp r11
        · exact z.2 k (by omega) h2
theorem m_allb (N : Nat) (hN : 100 < N) {σ ρ : St} {nt n m ns ng ni no : Nat} {w h : Nat → Nat} {τ : Nat → Tr} (d : Dat σ ρ nt n m ns ng ni no w h τ) : ∃ r ρ', f_M_areAllBound N ρ = some (r, ρ') ∧ MO ρ ρ' ∧ (r = 0 ∨ r = 1) ∧ (r = 1 ↔ BndOk ρ τ (isG ρ τ ng) ni) := by
  obtain ⟨hT, hE, hQ⟩ := id d
  have i6 := hQ.2.2.1.1
  have n60 := hE.1
  unfold f_M_areAllBound BndOk
  rcases hQ.2.2.2.2.2.1 with ⟨c1, c2⟩ | ⟨j, j1, j2, j3, -⟩
  · rw [c2, if_pos (by decide)]
    obtain ⟨r, ρ', z1, z2, z3, z4⟩ := m_b26 N hN d ni 0 N ρ 1 MO.rfl (by omega) (by omega) (Or.inr rfl)
    exact ⟨r, ρ', z1, z2, z3, z4.trans ⟨fun z => ⟨fun t q => (by cases q), fun k hk => z.2 k (by omega) hk⟩, fun z => ⟨rfl, fun k _ hk => z.2 k hk⟩⟩⟩
  · rw [j3, if_neg (show ¬ nI j < 0 from nI_pos (by omega)), oo_j (by omega)]
    obtain ⟨r1, ρ1, y1, y2, y3, y4⟩ := m_bound N hN d j1
    rw [y1, bd_eq]
    by_cases c1 : r1 = 0
    · rw [if_pos c1]
      obtain ⟨r, ρ', z1, z2, z3, z4⟩ := m_b26 N hN d ni 0 N ρ1 0 y2 (by omega) (by omega) (Or.inl rfl)
      refine ⟨r, ρ', z1, z2, z3, z4.trans ⟨fun z => absurd z.1 (by decide), fun z => ?_⟩⟩
      have := y4.mpr (z.1 _ rfl)
      rw [c1] at this
      exact absurd this (by decide)
    · have r11 : r1 = 1 := by rcases y3 with z | z; exact absurd z c1; exact z
      rw [if_neg c1]
      obtain ⟨r, ρ', z1, z2, z3, z4⟩ := m_b26 N hN d ni 0 N ρ1 1 y2 (by omega) (by omega) (Or.inr rfl)
      exact ⟨r, ρ', z1, z2, z3, z4.trans ⟨fun z => ⟨fun t q => (by cases q; exact y4.mp r11), fun k hk => z.2 k (by omega) hk⟩, fun z => ⟨rfl, fun k _ hk => z.2 k hk⟩⟩⟩

