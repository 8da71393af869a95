/-! X works a tree out (own rows) -/
theorem un_ok {k : Nat} {a : Tr} {r : Rs} (h : Rok a r) : Rok (.mulR a k) (un k r) := by
  refine ⟨fun e q => ?_, fun _ v q => ?_, fun c => absurd trivial c⟩
  · cases r with
    | error e' => cases q; exact h.1 _ rfl
    | ok v => cases q
  · cases r with
    | error e' => cases q
    | ok u =>
      cases q
      by_cases c : k = 11
      · simp only [if_pos c]
        split
        · exact Or.inl rfl
        · split
          · exact Or.inr (Or.inl rfl)
          · exact Or.inr (Or.inr rfl)
      · simp only [if_neg c]
        split
        · exact Or.inr (Or.inl rfl)
        · exact Or.inl rfl
theorem cp_01 {k : Nat} {x y : Int64} : cp k x y = 0 ∨ cp k x y = 1 := by
  unfold cp
  repeat' split
  all_goals first | exact Or.inl rfl | exact Or.inr rfl
theorem cmb_ok {k : Nat} {x y : Option Int64} {a b : Tr} (hx : k < 5 → ∀ z, x = some z → okF z) (hy : k < 5 → ∀ z, y = some z → okF z) : Rok (two k a b) (cmb k x y) := by
  unfold cmb
  by_cases c9 : k = 9
  · rw [if_pos c9]
    refine ⟨fun e q => (by cases q), fun _ v q => ?_, fun c => absurd (show 5 ≤ k by omega) c⟩
    cases q
    split
    · exact Or.inl rfl
    · split
      · exact Or.inr (Or.inl rfl)
      · exact Or.inr (Or.inr rfl)
  · rw [if_neg c9]
    by_cases c10 : k = 10
    · rw [if_pos c10]
      refine ⟨fun e q => (by cases q), fun _ v q => ?_, fun c => absurd (show 5 ≤ k by omega) c⟩
      cases q
      split
      · exact Or.inr (Or.inl rfl)
      · split
        · exact Or.inl rfl
        · exact Or.inr (Or.inr rfl)
    · rw [if_neg c10]
      have no : Rok (two k a b) (if k < 5 then .ok none else .ok (some 2)) := by
        by_cases c5 : k < 5
        · rw [if_pos c5]
          exact ⟨fun e q => (by cases q), fun c => absurd c (show ¬ 5 ≤ k by omega), fun _ v q => (by cases q)⟩
        · rw [if_neg c5]
          exact ⟨fun e q => (by cases q), fun _ v q => (by cases q; exact Or.inr (Or.inr rfl)), fun c => absurd (show 5 ≤ k by omega) c⟩
      cases x with
      | none => cases y <;> exact no
      | some u =>
        cases y with
        | none => exact no
        | some v =>
          show Rok (two k a b) (if k < 5 then rk k u v else .ok (some (cp k u v)))
          by_cases c5 : k < 5
          · rw [if_pos c5]
            obtain ⟨q1, q2⟩ := rk_ok (k := k) (hx c5 u rfl) (hy c5 v rfl)
            refine ⟨q1, fun c => absurd c (show ¬ 5 ≤ k by omega), fun _ z q => ?_⟩
            obtain ⟨z', e, hz⟩ := q2 _ q
            cases e
            exact hz
          · rw [if_neg c5]
            refine ⟨fun e q => (by cases q), fun _ z q => ?_, fun c => absurd (show 5 ≤ k by omega) c⟩
            cases q
            rcases cp_01 (k := k) (x := u) (y := v) with e | e <;> rw [e]
            · exact Or.inl rfl
            · exact Or.inr (Or.inl rfl)
theorem bi_ok {k : Nat} {x y : Rs} {a b : Tr} (w : twf (two k a b)) (hx : Rok a x) (hy : Rok b y) : Rok (two k a b) (bi k x y) := by
  have bd1 : ∀ {t : Tr} {r : Rs}, Rok t r → (tru t ↔ 9 ≤ k) → k < 5 → ∀ v, r = .ok v → ∀ z, v = some z → okF z := by
    intro t r h ht h5 v q z e
    subst e
    exact h.2.2 (fun z => by have := ht.mp z; omega) z q
  unfold bi
  cases x with
  | error e => exact ⟨fun e' q => (by cases q; exact hx.1 e rfl), fun _ v q => (by cases q), fun _ v q => (by cases q)⟩
  | ok u =>
    show Rok _ (if (k = 9 ∧ u = some 0) ∨ (k = 10 ∧ u = some 1) then .ok u else _)
    by_cases c : (k = 9 ∧ u = some 0) ∨ (k = 10 ∧ u = some 1)
    · rw [if_pos c]
      refine ⟨fun e q => (by cases q), fun _ v q => ?_, fun c' => absurd (show 5 ≤ k by omega) c'⟩
      cases q
      rcases c with c | c <;> rw [c.2]
      · exact Or.inl rfl
      · exact Or.inr (Or.inl rfl)
    · rw [if_neg c]
      cases y with
      | error e => exact ⟨fun e' q => (by cases q; exact hy.1 e rfl), fun _ v q => (by cases q), fun _ v q => (by cases q)⟩
      | ok v => exact cmb_ok (fun h => bd1 hx w.2.1 h u rfl) (fun h => bd1 hy w.2.2.1 h v rfl)
theorem okz_F {v : Int64} (h : okz v) : okF v := by
  rw [okF_iff]
  have h1 := h.1
  have h2 := h.2
  rw [i64_le] at h1 h2
  have : (-1000000000000 : Int64).toInt = -1000000000000 := by decide
  have : (1000000000000 : Int64).toInt = 1000000000000 := by decide
  omega
theorem orL_ok {t : Tr} {o : Option (Option Int64)} {r : Rs} (hL : ∀ v, o = some v → ¬ tru t ∧ ∀ z, v = some z → okF z) (h : Rok t r) : Rok t (orL o r) := by
  cases o with
  | none => exact h
  | some v =>
    obtain ⟨q1, q2⟩ := hL v rfl
    exact ⟨fun e q => (by cases q), fun c => absurd c q1, fun _ z q => (by cases q; exact q2 z rfl)⟩
theorem val_ok {t : Tr} {v : Option Int64} (h : ¬ tru t) (h2 : ∀ z, v = some z → okF z) : Rok t (.ok v) := ⟨fun e q => (by cases q), fun c => absurd c h, fun _ z q => (by cases q; exact h2 z rfl)⟩
theorem sem_ok {L : Tr → Option (Option Int64)} {C A : Nat → Option Int64} {P Q : Nat → Prop} (hL : ∀ t v, L t = some v → ¬ tru t ∧ ∀ z, v = some z → okF z) (bC : ∀ b, P b → ∀ z, C b = some z → okF z) (bA : ∀ s, Q s → ∀ z, A s = some z → okF z) : ∀ t, twf t → tall P Q t → Rok t (sem L C A t)
  | .num 0, _, _ => by unfold sem; exact orL_ok (hL _) (val_ok (fun z => z) (fun z q => (by cases q)))
  | .num (n + 1), w, _ => by unfold sem; exact orL_ok (hL _) (val_ok (fun z => z) (fun z q => (by cases q; exact okz_F w.2)))
  | .var b, _, p => by unfold sem; exact orL_ok (hL _) (val_ok (fun z => z) (bC b p))
  | .mulL c a, _, p => by unfold sem; exact orL_ok (hL _) (val_ok (fun z => z) (bA _ p.1))
  | .mulR a k, w, p => by unfold sem; exact orL_ok (hL _) (un_ok (sem_ok hL bC bA a w.2 p))
  | .add (.mulL k a) b, w, p => by unfold sem; exact orL_ok (hL _) (bi_ok w (sem_ok hL bC bA a w.2.2.2.1 p.1) (sem_ok hL bC bA b w.2.2.2.2 p.2))
def nL : Tr → Option (Option Int64) := fun _ => none
theorem tsz_pos : ∀ t : Tr, 1 ≤ tsz t := by
  intro t
  unfold tsz
  split <;> omega
def opc : Rs → Rs → Int32
  | .error e, _ => e
  | .ok _, .error e => e
  | .ok (some _), .ok (some _) => 1
  | .ok _, .ok _ => 0
theorem vc_ok {v : Option Int64} : (0 : Int32) ≤ vc (.ok v) := by
  cases v
  · exact (by decide : (0 : Int32) ≤ 0)
  · exact (by decide : (0 : Int32) ≤ 1)
theorem err_neg {e : Int32} (h : e = -20 ∨ e = -21) : ¬ (0 : Int32) ≤ e ∧ e < 0 := by rcases h with rfl | rfl <;> decide
theorem x_opr {N : Nat} {g : Bool} {σ : St} {e i j d fu : Nat} {l : Nat → Int64} {r1 r2 : Rs} (he : e < 60) (f1 : ga σ 4 e = nI i) (f2 : ga σ 5 e = nI j) (h1 : ∀ e, r1 = .error e → e = -20 ∨ e = -21) (h2 : ∀ e, r2 = .error e → e = -20 ∨ e = -21)
    (q1 : ∀ l, ∃ l', f_ev N g fu 0 (wL σ l) (nI i) (nI (d + 1)) = some (vc r1, wL σ l') ∧ ∀ v, r1 = .ok (some v) → l' 0 = v)
    (q2 : ∀ l, ∃ l', f_ev N g fu 0 (wL σ l) (nI j) (nI (d + 1)) = some (vc r2, wL σ l') ∧ ∀ v, r2 = .ok (some v) → l' 0 = v) :
    ∃ l', f_ev N g (fu + 1) 2 (wL σ l) (nI e) (nI d) = some (opc r1 r2, wL σ l') ∧ (∀ u v, r1 = .ok (some u) → r2 = .ok (some v) → l' 1 = u ∧ l' 0 = v) ∧ ∀ x y, r1 = .ok x → r2 = .ok y → (x = none ∨ y = none) → l' 0 = 0 := by
  obtain ⟨l1, a1, a2⟩ := q1 l
  obtain ⟨l2, b1, b2⟩ := q2 l1
  have key : f_ev N g (fu + 1) 2 (wL σ l) (nI e) (nI d) = if 0 ≤ vc r1 then (if 0 ≤ vc r2 then (if vc r1 = 0 then some (0, wL σ (vp_updL l2 0 0)) else if vc r2 = 0 then some (0, wL σ (vp_updL l2 0 0)) else some (1, wL σ (vp_updL l2 1 (l1 0)))) else some (vc r2, wL σ l2)) else some (vc r1, wL σ l1) := by
    show f_V_operands_b N g (f_ev N g fu) (wL σ l) (nI e) (nI d) = _
    unfold f_V_operands_b
    simp only [ckb_nI he (show 60 < 2 ^ 31 by decide), nI_clamp (show e < 2 ^ 31 by omega)]
    rw [show ga (wL σ l) 4 e = nI i from f1, nI_1, a1, bd_eq, show ga (wL σ l1) 5 e = nI j from f2, b1, bd_eq]
    rfl
  rw [key]
  cases r1 with
  | error e1 => rw [if_neg (show ¬ (0 : Int32) ≤ vc (.error e1) from (err_neg (h1 e1 rfl)).1)]; exact ⟨l1, rfl, fun u v q _ => (by cases q), fun x y q _ => (by cases q)⟩
  | ok x =>
    rw [if_pos vc_ok]
    cases r2 with
    | error e2 => rw [if_neg (show ¬ (0 : Int32) ≤ vc (.error e2) from (err_neg (h2 e2 rfl)).1)]; exact ⟨l2, rfl, fun u v _ q => (by cases q), fun x y _ q => (by cases q)⟩
    | ok y =>
      rw [if_pos vc_ok]
      cases x with
      | none => cases y <;> exact ⟨_, rfl, fun u v q _ => (by cases q), fun _ _ _ _ _ => by rw [updL_at, if_pos rfl]⟩
      | some u =>
        cases y with
        | none => exact ⟨_, rfl, fun u v _ q => (by cases q), fun _ _ _ _ _ => by rw [updL_at, if_pos rfl]⟩
        | some v =>
          refine ⟨_, rfl, fun u' v' p q => ?_, fun x y p q z => (by cases p; cases q; rcases z with z | z <;> cases z)⟩
          cases p
          cases q
          refine ⟨?_, ?_⟩
          · rw [updL_at, if_pos rfl]; exact a2 u rfl
          · rw [updL_at, if_neg (by decide)]; exact b2 v rfl

