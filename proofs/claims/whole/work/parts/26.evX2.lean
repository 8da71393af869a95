/-! X works a tree out: all forms (own rows) -/
theorem i32_64 (x : Int32) : x.toInt64.toInt32 = x := by simp
theorem x_value {N : Nat} {g : Bool} {σ : St} {n e d fu : Nat} {l : Nat → Int64} (hn : gi σ 1 = nI n) (h60 : n ≤ 60) (he : e < n) (hd : d < 60) : f_ev N g (fu + 1) 0 (wL σ l) (nI e) (nI d) =
    if ga σ 3 e = 13 then some (1, wL σ (vp_updL (vp_updL l 0 0) 0 (gb σ 1 e))) else if ga σ 3 e = 14 then some (0, wL σ (vp_updL l 0 0))
    else if ga σ 3 e = 15 then bd (f_V_lookUp N (wL σ (vp_updL l 0 0)) (gb σ 1 e).toInt32) fun r s => some (r, s) else if ga σ 3 e = 16 then bd (f_V_ofGroup N g (wL σ (vp_updL l 0 0)) (gb σ 1 e).toInt32) fun r s => some (r, s)
    else bd (f_ev N g fu 2 (wL σ (vp_updL l 0 0)) (nI e) (nI d)) fun r s => if r = 1 then bd (f_V_calculate N s (ga s 3 e) (gl s 1) (gl s 0)) fun r s => some (r, s) else some (r, s) := by
  show f_V_value_b N g (f_ev N g fu) (wL σ l) (nI e) (nI d) = _
  unfold f_V_value_b
  have hh : ∀ l, f_E_has N (wL σ l) (nI e) = some (1, wL σ l) := fun l => x_has_yes (σ := wL σ l) hn he h60
  rw [nm_eq, wL_sl, if_neg (show ¬ (60 : Int32) ≤ nI d from nI_ge (b := 60) hd (by decide)), hh, bd_eq, if_neg (show ¬ (1 : Int32) = 0 by decide)]
  simp only [ckb_nI (show e < 60 by omega) (show 60 < 2 ^ 31 by decide), nI_clamp (show e < 2 ^ 31 by omega), nm_eq, wL_sl]
  rfl
theorem x_truth {N : Nat} {g : Bool} {σ : St} {n e d fu : Nat} {l : Nat → Int64} (hn : gi σ 1 = nI n) (h60 : n ≤ 60) (he : e < n) (hd : d < 60) : f_ev N g (fu + 1) 1 (wL σ l) (nI e) (nI d) =
    if ga σ 3 e = 9 then f_V_truth_41 N g (f_ev N g fu) (wL σ l) (nI e) (nI d) else if ga σ 3 e = 10 then f_V_truth_41 N g (f_ev N g fu) (wL σ l) (nI e) (nI d)
    else if ga σ 3 e = 11 then bd (f_ev N g fu 1 (wL σ l) (ga σ 4 e) (nI (d + 1))) fun r s => if r = 1 then some (0, s) else if r = 0 then some (1, s) else some (r, s)
    else if ga σ 3 e = 12 then bd (f_ev N g fu 0 (wL σ l) (ga σ 4 e) (nI (d + 1))) fun r s => if 0 ≤ r then (if r = 0 then some (1, s) else some (0, s)) else some (r, s)
    else bd (f_ev N g fu 2 (wL σ l) (nI e) (nI d)) fun r s => if 0 ≤ r then (if r = 0 then some (2, s) else bd (f_V_compares N s (ga σ 3 e) (gl s 1) (gl s 0)) fun r s => if r = 0 then some (0, s) else some (1, s)) else some (r, s) := by
  show f_V_truth_b N g (f_ev N g fu) (wL σ l) (nI e) (nI d) = _
  unfold f_V_truth_b
  have hh : ∀ l, f_E_has N (wL σ l) (nI e) = some (1, wL σ l) := fun l => x_has_yes (σ := wL σ l) hn he h60
  rw [if_neg (show ¬ (60 : Int32) ≤ nI d from nI_ge (b := 60) hd (by decide)), hh, bd_eq, if_neg (show ¬ (1 : Int32) = 0 by decide)]
  simp only [ckb_nI (show e < 60 by omega) (show 60 < 2 ^ 31 by decide), nI_clamp (show e < 2 ^ 31 by omega), nI_1]
  rfl
theorem x_cmp {N : Nat} {σ : St} {k : Nat} {x y : Int64} (h5 : 5 ≤ k) (h8 : k ≤ 8) : ∃ r, f_V_compares N σ (nI k) x y = some (r, σ) ∧ (if r = 0 then (0 : Int32) else 1) = (cp k x y).toInt32 := by
  have : k = 5 ∨ k = 6 ∨ k = 7 ∨ k = 8 := by omega
  unfold f_V_compares cp
  rcases this with rfl | rfl | rfl | rfl <;> simp (decide := true) only [if_true, if_false, cmp_eq, cmp_ge, cmp_gt]
  · by_cases c : x = y
    · rw [if_pos c, if_pos c]; exact ⟨1, rfl, by decide⟩
    · rw [if_neg c, if_neg c]; exact ⟨0, rfl, by decide⟩
  · by_cases c : x = y
    · rw [if_pos c, if_pos c]; exact ⟨0, rfl, by decide⟩
    · rw [if_neg c, if_neg c]; exact ⟨1, rfl, by decide⟩
  · by_cases c : x < y
    · rw [if_pos c, if_neg (show ¬ y ≤ x by rw [i64_le]; rw [i64_lt] at c; omega)]; exact ⟨1, rfl, by decide⟩
    · rw [if_neg c, if_pos (show y ≤ x by rw [i64_le]; rw [i64_lt] at c; omega)]; exact ⟨0, rfl, by decide⟩
  · by_cases c : x ≤ y
    · rw [if_pos c, if_neg (show ¬ y < x by rw [i64_lt]; rw [i64_le] at c; omega)]; exact ⟨1, rfl, by decide⟩
    · rw [if_neg c, if_pos (show y < x by rw [i64_lt]; rw [i64_le] at c; omega)]; exact ⟨0, rfl, by decide⟩
/-- a truth's code -/
theorem tc_cases {t : Tr} {r : Rs} (ht : tru t) (h : Rok t r) : (∃ e, r = .error e ∧ (e = -20 ∨ e = -21)) ∨ r = .ok (some 0) ∨ r = .ok (some 1) ∨ r = .ok (some 2) := by
  cases r with
  | error e => exact Or.inl ⟨e, rfl, h.1 e rfl⟩
  | ok v => rcases h.2.1 ht v rfl with rfl | rfl | rfl <;> simp
theorem x_junction {N : Nat} {g : Bool} {σ : St} {e i j d fu k : Nat} {l : Nat → Int64} {r1 r2 : Rs} {a b : Tr} (he : e < 60) (hk : k = 9 ∨ k = 10) (f0 : ga σ 3 e = nI k) (f1 : ga σ 4 e = nI i) (f2 : ga σ 5 e = nI j) (ta : tru a) (tb : tru b) (h1 : Rok a r1) (h2 : Rok b r2)
    (q1 : ∀ l, ∃ l', f_ev N g fu 1 (wL σ l) (nI i) (nI (d + 1)) = some (tc r1, wL σ l'))
    (q2 : ∀ l, ∃ l', f_ev N g fu 1 (wL σ l) (nI j) (nI (d + 1)) = some (tc r2, wL σ l')) :
    ∃ l', f_ev N g (fu + 1) 3 (wL σ l) (nI e) (nI d) = some (tc (bi k r1 r2), wL σ l') := by
  obtain ⟨l1, a1⟩ := q1 l
  obtain ⟨l2, b1⟩ := q2 l1
  have key : ∀ t0 : Int32, f_V_junction_19 N g (f_ev N g fu) (wL σ l) (nI e) (nI d) t0 = if tc r1 < 0 then some (tc r1, wL σ l1) else if tc r1 = t0 then some (tc r1, wL σ l1) else if tc r2 < 0 then some (tc r2, wL σ l2) else if tc r2 = t0 then some (tc r2, wL σ l2) else if tc r1 = 2 then some (2, wL σ l2) else some (tc r2, wL σ l2) := by
    intro t0
    unfold f_V_junction_19
    simp only [ckb_nI he (show 60 < 2 ^ 31 by decide), nI_clamp (show e < 2 ^ 31 by omega)]
    rw [show ga (wL σ l) 4 e = nI i from f1, nI_1, a1, bd_eq, show ga (wL σ l1) 5 e = nI j from f2, b1, bd_eq]
  have sel : f_ev N g (fu + 1) 3 (wL σ l) (nI e) (nI d) = f_V_junction_19 N g (f_ev N g fu) (wL σ l) (nI e) (nI d) (if k = 9 then 0 else 1) := by
    show f_V_junction_b N g (f_ev N g fu) (wL σ l) (nI e) (nI d) = _
    unfold f_V_junction_b
    rw [ckb_nI he (by decide), nI_clamp (by omega), show ga (wL σ l) 3 e = nI k from f0]
    rcases hk with rfl | rfl
    · rfl
    · rfl
  rw [sel, key]
  rcases tc_cases ta h1 with ⟨e1, rfl, he1⟩ | rfl | rfl | rfl
  · rw [if_pos (show tc (.error e1) < 0 from (err_neg he1).2)]
    exact ⟨l1, rfl⟩
  all_goals
    rcases tc_cases tb h2 with ⟨e2, rfl, he2⟩ | rfl | rfl | rfl <;> rcases hk with rfl | rfl
  all_goals first
    | exact ⟨l1, rfl⟩
    | exact ⟨l2, rfl⟩
    | (rw [if_neg (by decide), if_neg (by decide), if_pos (show tc (.error e2) < 0 from (err_neg he2).2)]; exact ⟨l2, rfl⟩)

