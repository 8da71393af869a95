/-! M goes through trees: columns (own rows) -/
def MO (ρ ρ' : St) : Prop := (∀ r, r ≠ 19 → gi ρ' r = gi ρ r) ∧ (∀ r, r ≠ 24 → r ≠ 25 → ga ρ' r = ga ρ r) ∧ (∀ r, gb ρ' r = gb ρ r)
theorem MO.rfl {ρ : St} : MO ρ ρ := ⟨fun _ _ => Eq.refl _, fun _ _ _ => Eq.refl _, fun _ => Eq.refl _⟩
theorem MO.trans {a b c : St} (h : MO a b) (k : MO b c) : MO a c := ⟨fun r x => (k.1 r x).trans (h.1 r x), fun r x y => (k.2.1 r x y).trans (h.2.1 r x y), fun r => (k.2.2 r).trans (h.2.2 r)⟩
theorem MO.mf {ρ ρ' : St} (h : MO ρ ρ') : MF ρ ρ' := ⟨fun r x _ _ => h.1 r x, fun r x y _ => h.2.1 r x y, fun r _ => h.2.2 r⟩
theorem mo_open {ρ : St} {x : Int32} : MO ρ (si ρ 19 x) := ⟨fun r h => by rw [gi_si, if_neg h], fun _ _ _ => rfl, fun _ => rfl⟩
theorem mo_at {ρ : St} {i x : Int32} : MO ρ (wa ρ 24 i x) := ⟨fun _ _ => rfl, fun r h _ => by rw [ga_wa, if_neg h], fun _ => rfl⟩
theorem mo_state {ρ : St} {i x : Int32} : MO ρ (wa ρ 25 i x) := ⟨fun _ _ => rfl, fun r _ h => by rw [ga_wa, if_neg h], fun _ => rfl⟩
theorem mo_phs {ρ : St} {k : Nat} {x : Int32} : MO ρ (phs ρ k x) := (mo_at.trans mo_state).trans mo_open
def Sk (f : Nat → Int32) : List Nat → Prop
  | [] => True
  | x :: l => f l.length = nI x ∧ Sk f l
def szs (τ : Nat → Tr) : List Nat → Nat
  | [] => 0
  | x :: l => tsz (τ x) + szs τ l
theorem szs_len {τ : Nat → Tr} : ∀ l : List Nat, l.length ≤ szs τ l
  | [] => Nat.le_refl _
  | x :: l => by
    have := szs_len (τ := τ) l
    have := tsz_pos (τ x)
    simp only [List.length_cons, szs]
    omega
theorem Sk_upd {f : Nat → Int32} {k : Nat} {x : Int32} : ∀ {l : List Nat}, Sk f l → l.length ≤ k → Sk (upd f k x) l
  | [], _, _ => trivial
  | y :: l, h, hk => ⟨by rw [upd_at, if_neg (by simp only [List.length_cons] at hk; omega)]; exact h.1, Sk_upd h.2 (by simp only [List.length_cons] at hk; omega)⟩
theorem at_phs {ρ : St} {k : Nat} {x : Int32} (hk : k < 2 ^ 31) : ga (phs ρ k x) 24 = upd (ga ρ 24) k x := by
  unfold phs
  rw [ga_si, ga_wa, if_neg (by decide), ga_wa, if_pos rfl, nI_clamp hk]
theorem Sk_push {ρ : St} {l : List Nat} {i : Nat} (hl : l.length < 2 ^ 31) (h : Sk (ga ρ 24) l) : Sk (ga (phs ρ l.length (nI i)) 24) (i :: l) := by
  rw [at_phs hl]
  exact ⟨by rw [upd_at, if_pos rfl], Sk_upd h (Nat.le_refl _)⟩
theorem dat_mo {σ ρ ρ' : St} {nt n m ns ng ni no : Nat} {w h : Nat → Nat} {τ : Nat → Tr} (d : Dat σ ρ nt n m ns ng ni no w h τ) (mo : MO ρ ρ') : Dat σ ρ' nt n m ns ng ni no w h τ := d.same SX.rfl mo.mf.sm
theorem m_hc (N : Nat) {σ ρ0 : St} {nt n m ns ng ni no lst : Nat} {w h : Nat → Nat} {τ : Nat → Tr} (d : Dat σ ρ0 nt n m ns ng ni no w h τ) (hl : lst < ns) : ∀ (s fu : Nat) (l : List Nat) (ρ : St) (x3 : Int32), MO ρ0 ρ → (∀ e, e ∈ l → e < n) → Sk (ga ρ 24) l → gi ρ 19 = nI l.length → szs τ l ≤ s → s ≤ 60 → s < fu → (x3 = 0 ∨ x3 = 1) →
    ∃ r ρ', f_M_hasColumns_12 N fu ρ (nI lst) x3 = some (r, ρ') ∧ MO ρ0 ρ' ∧ (r = 0 ∨ r = 1) ∧ (r = 1 ↔ x3 = 1 ∧ ∀ e, e ∈ l → tall (Pc ρ0 w (lst + 1)) (fun _ => True) (τ e)) := by
  intro s
  induction s with
  | zero =>
    intro fu l ρ x3 mo hn hk ho hs h60 hfu hx
    have : l = [] := by
      cases l with
      | nil => rfl
      | cons x l => have := tsz_pos (τ x); simp only [szs] at hs; omega
    subst this
    obtain ⟨fu, rfl⟩ : ∃ q, fu = q + 1 := ⟨fu - 1, by omega⟩
    have e0 : f_M_hasColumns_12 N (fu + 1) ρ (nI lst) x3 = f_M_hasColumns_12_b N (f_M_hasColumns_12 N fu) ρ (nI lst) x3 := rfl
    rw [e0]
    unfold f_M_hasColumns_12_b
    rw [ho, if_pos (show nI ([] : List Nat).length ≤ 0 by decide), ckt_b hx]
    exact ⟨x3, ρ, rfl, mo, hx, fun z => ⟨z, fun e he => (by cases he)⟩, fun z => z.1⟩
  | succ s ih =>
    intro fu l ρ x3 mo hn hk ho hs h60 hfu hx
    obtain ⟨fu, rfl⟩ : ∃ q, fu = q + 1 := ⟨fu - 1, by omega⟩
    have e0 : f_M_hasColumns_12 N (fu + 1) ρ (nI lst) x3 = f_M_hasColumns_12_b N (f_M_hasColumns_12 N fu) ρ (nI lst) x3 := rfl
    rw [e0]
    unfold f_M_hasColumns_12_b
    cases l with
    | nil =>
      rw [ho, if_pos (show nI ([] : List Nat).length ≤ 0 by decide), ckt_b hx]
      exact ⟨x3, ρ, rfl, mo, hx, fun z => ⟨z, fun e he => (by cases he)⟩, fun z => z.1⟩
    | cons e l =>
      simp only [szs] at hs
      have len := szs_len (τ := τ) l
      have ps := tsz_pos (τ e)
      have he : e < n := hn e (List.mem_cons_self)
      have hn' : ∀ e, e ∈ l → e < n := fun e q => hn e (List.mem_cons_of_mem _ q)
      have ho : gi ρ 19 = nI (l.length + 1) := ho
      obtain ⟨hk1, hk2⟩ := hk
      obtain ⟨hT, hE, hQ⟩ := dat_mo d (mo.trans mo_open : MO ρ0 (si ρ 19 (nI l.length)))
      have n60 := hE.1
      rw [ho, if_neg (show ¬ nI (l.length + 1) ≤ 0 from nI_nle (by omega) (by omega)), nI_pred, nm_eq]
      obtain ⟨ρ1, hρ1⟩ : ∃ ρ1, ρ1 = si ρ 19 (nI l.length) := ⟨_, rfl⟩
      rw [← hρ1] at hE hQ hT ⊢
      have mo1 : MO ρ0 ρ1 := by rw [hρ1]; exact mo.trans mo_open
      have o1 : gi ρ1 19 = nI l.length := by rw [hρ1]; rfl
      have a1 : ga ρ1 24 l.length = nI e := by rw [hρ1]; exact hk1
      have k1 : Sk (ga ρ1 24) l := by rw [hρ1]; exact hk2
      have hp := hE.2.2.2.2.2.2.1 e he
      have me := hp.2.1
      have w' := hp.2.2.1
      simp only [o1, ckb_nI (show l.length < 64 by omega) (show 64 < 2 ^ 31 by decide), nI_clamp (show l.length < 2 ^ 31 by omega), a1, ckb_nI (show e < 60 by omega) (show 60 < 2 ^ 31 by decide), nI_clamp (show e < 2 ^ 31 by omega)]
      have fin : ∀ (ρ2 : St) (l2 : List Nat) (y : Int32), MO ρ0 ρ2 → (∀ e, e ∈ l2 → e < n) → Sk (ga ρ2 24) l2 → gi ρ2 19 = nI l2.length → szs τ l2 ≤ s → (y = 0 ∨ y = 1) → ((y = 1 ∧ ∀ q, q ∈ l2 → tall (Pc ρ0 w (lst + 1)) (fun _ => True) (τ q)) ↔ (x3 = 1 ∧ ∀ q, q ∈ e :: l → tall (Pc ρ0 w (lst + 1)) (fun _ => True) (τ q))) → ∃ r ρ', f_M_hasColumns_12 N fu ρ2 (nI lst) y = some (r, ρ') ∧ MO ρ0 ρ' ∧ (r = 0 ∨ r = 1) ∧ (r = 1 ↔ x3 = 1 ∧ ∀ q, q ∈ e :: l → tall (Pc ρ0 w (lst + 1)) (fun _ => True) (τ q)) := by
        intro ρ2 l2 y q1 q2 q3 q4 q5 q6 q7
        obtain ⟨r, ρ', z1, z2, z3, z4⟩ := ih fu l2 ρ2 y q1 q2 q3 q4 q5 (by omega) (by omega) q6
        exact ⟨r, ρ', z1, z2, z3, z4.trans q7⟩
      have w4 : ∀ k, k < ns → w (tb ρ1 k) ≤ 4 := fun k hk => (hT.2.2.2.1 _ (src_t hQ hk hT.1).1).2.1
      have pce : ∀ b, Pc ρ1 w (lst + 1) b ↔ Pc ρ0 w (lst + 1) b := by
        intro b
        have e2 : ga ρ1 11 = ga ρ0 11 := mo1.2.1 _ (by decide) (by decide)
        unfold Pc tb
        rw [e2]
      have ns3 := hQ.1.1
      generalize ht : τ e = t at me w' ps
      have hs : tsz t + szs τ l ≤ s + 1 := by rw [← ht]; exact hs
      have all : (∀ q, q ∈ e :: l → tall (Pc ρ0 w (lst + 1)) (fun _ => True) (τ q)) ↔ (tall (Pc ρ0 w (lst + 1)) (fun _ => True) t ∧ ∀ q, q ∈ l → tall (Pc ρ0 w (lst + 1)) (fun _ => True) (τ q)) := by
        rw [← ht]
        exact List.forall_mem_cons
      rcases tcases w' with rfl | ⟨q, hq, rfl⟩ | ⟨b, hb, rfl⟩ | ⟨kk, a, b, hkk, rfl⟩ | ⟨kk, a, hkk, rfl⟩ | ⟨c, a, hc, hcq, rfl⟩
      · rw [if_neg (show ¬ ga ρ1 3 e = 21 by rw [me.1]; decide), if_pos me.1]
        exact fin ρ1 l x3 mo1 hn' k1 o1 (by omega) hx (by rw [all]; simp [tall])
      · rw [if_neg (show ¬ ga ρ1 3 e = 21 by rw [me.1]; decide), if_pos me.1]
        exact fin ρ1 l x3 mo1 hn' k1 o1 (by omega) hx (by rw [all]; simp [tall])
      · rw [if_pos me.1]
        by_cases c0 : x3 = 0
        · rw [if_pos c0]
          exact fin ρ1 l 0 mo1 hn' k1 o1 (by omega) (Or.inl rfl) ⟨fun z => absurd z.1 (by decide), fun z => absurd z.1 (by rw [c0]; decide)⟩
        · have x1 : x3 = 1 := by rcases hx with z | z; exact absurd z c0; exact z
          rw [if_neg c0, me.2.2.1, me.2.2.2]
          by_cases c1 : lst < b / 4
          · rw [if_pos (nI_lt c1 (by omega))]
            refine fin ρ1 l 0 mo1 hn' k1 o1 (by omega) (Or.inl rfl) ⟨fun z => absurd z.1 (by decide), fun z => ?_⟩
            have := (all.mp z.2).1
            have : Pc ρ0 w (lst + 1) b := this
            exact absurd this.1 (by omega)
          · obtain ⟨t1, t2, t3⟩ := src_t hQ (show b / 4 < ns by omega) hT.1
            have h6 := hT.1
            have www := hT.2.2.2.1 _ t1
            rw [if_neg (nI_nlt (by omega) (by omega)), ckb_nI (show b / 4 < 3 by omega) (by decide), nI_clamp (show b / 4 < 2 ^ 31 by omega), t2, ckb_nI (show tb ρ1 (b / 4) < 6 by omega) (by decide), nI_clamp (show tb ρ1 (b / 4) < 2 ^ 31 by omega), www.2.2.2.2.1]
            by_cases c2 : w (tb ρ1 (b / 4)) ≤ b % 4
            · rw [if_pos (nI_le c2 (by omega))]
              refine fin ρ1 l 0 mo1 hn' k1 o1 (by omega) (Or.inl rfl) ⟨fun z => absurd z.1 (by decide), fun z => ?_⟩
              have := (all.mp z.2).1
              have : Pc ρ0 w (lst + 1) b := this
              exact absurd ((pce b).mpr this).2 (by omega)
            · rw [if_neg (nI_ge (by omega) (by omega))]
              refine fin ρ1 l 1 mo1 hn' k1 o1 (by omega) (Or.inr rfl) ⟨fun z => ⟨x1, all.mpr ⟨(pce b).mp ⟨by omega, by omega⟩, z.2⟩⟩, fun z => ⟨rfl, (all.mp z.2).2⟩⟩
      · obtain ⟨m1, m2, i, j, hi, hj, m3, m4, m5, m6⟩ := me
        have sz : tsz (two kk a b) = 1 + tsz a + tsz b := by simp only [tsz]
        have pi : ga ρ1 4 e = nI i := m3
        rw [m1, if_neg (show ¬ nI kk = (21 : Int32) from k_ne (j := 21) (by omega) (by decide) (by omega)), if_neg (show ¬ nI kk = (20 : Int32) from k_ne (j := 20) (by omega) (by decide) (by omega)), pi, m_push (by omega) o1, bd_eq, m_two, bd_eq, if_pos (show nI kk ≤ (10 : Int32) from nI_le (b := 10) hkk (by decide)), if_neg (show ¬ (1 : Int32) = 0 by decide)]
        have sj : ga (phs ρ1 l.length (nI i)) 5 e = nI j := m4
        rw [sj, m_push (k := l.length + 1) (by omega) rfl, bd_eq]
        refine fin _ (j :: i :: l) x3 ((mo1.trans mo_phs).trans mo_phs) ?_ (Sk_push (l := i :: l) (by simp only [List.length_cons]; omega) (Sk_push (by omega) k1)) rfl ?_ hx ?_
        · intro q hq
          simp only [List.mem_cons] at hq
          rcases hq with rfl | rfl | hq
          · omega
          · omega
          · exact hn' q hq
        · simp only [szs]
          rw [m5, m6]
          omega
        · rw [all]
          simp only [List.forall_mem_cons, m5, m6, tall]
          constructor
          · rintro ⟨z1, z2, z3, z4⟩; exact ⟨z1, ⟨z3, z2⟩, z4⟩
          · rintro ⟨z1, ⟨z3, z2⟩, z4⟩; exact ⟨z1, z2, z3, z4⟩
      · obtain ⟨m1, m2, i, hi, m3, m5⟩ := me
        have sz : tsz (one kk a) = 1 + tsz a := by simp only [tsz]
        have pi : ga ρ1 4 e = nI i := m3
        rw [m1, if_neg (show ¬ nI kk = (21 : Int32) from k_ne (j := 21) (by omega) (by decide) (by omega)), if_neg (show ¬ nI kk = (20 : Int32) from k_ne (j := 20) (by omega) (by decide) (by omega)), pi, m_push (by omega) o1, bd_eq, m_two, bd_eq, if_neg (show ¬ nI kk ≤ (10 : Int32) from nI_ge (a := 10) (by omega) (by omega)), if_pos rfl]
        refine fin _ (i :: l) x3 (mo1.trans mo_phs) ?_ (Sk_push (by omega) k1) rfl ?_ hx ?_
        · intro q hq
          simp only [List.mem_cons] at hq
          rcases hq with rfl | hq
          · omega
          · exact hn' q hq
        · simp only [szs]
          rw [m5]
          omega
        · rw [all]
          simp only [List.forall_mem_cons, m5, tall]
      · obtain ⟨m1, m2, m9, i, hi, m3, m5⟩ := me
        have sz : tsz (agg c a) = 1 + tsz a := by simp only [tsz]
        have pi : ga ρ1 4 e = nI i := m3
        rw [m1, if_neg (show ¬ nI (30 + c / 8 % 8) = (21 : Int32) from k_ne (j := 21) (by omega) (by decide) (by omega)), if_neg (show ¬ nI (30 + c / 8 % 8) = (20 : Int32) from k_ne (j := 20) (by omega) (by decide) (by omega)), pi, m_push (by omega) o1, bd_eq, m_two, bd_eq, if_neg (show ¬ nI (30 + c / 8 % 8) ≤ (10 : Int32) from nI_ge (a := 10) (by omega) (by omega)), if_pos rfl]
        refine fin _ (i :: l) x3 (mo1.trans mo_phs) ?_ (Sk_push (by omega) k1) rfl ?_ hx ?_
        · intro q hq
          simp only [List.mem_cons] at hq
          rcases hq with rfl | hq
          · omega
          · exact hn' q hq
        · simp only [szs]
          rw [m5]
          omega
        · rw [all]
          simp only [List.forall_mem_cons, m5, tall, true_and]

