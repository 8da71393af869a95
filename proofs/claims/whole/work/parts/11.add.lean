/-! X puts an expression together (own rows) -/
/-- a part: none, or an expression before n -/
abbrev Rf (n : Nat) (x : Int32) : Prop := x = -1 ∨ ∃ i, i < n ∧ x = nI i
def atI (f : Nat → Int32) (d x : Int32) : Int32 := if x < 0 then d else f x.toNatClampNeg
theorem atI_no {f : Nat → Int32} {d : Int32} : atI f d (-1) = d := rfl
theorem atI_yes {f : Nat → Int32} {d : Int32} {i : Nat} (h : i < 2 ^ 31) : atI f d (nI i) = f i := by
  unfold atI
  rw [if_neg (nI_pos h), nI_clamp h]
theorem x_partsOf {N : Nat} {σ : St} {n : Nat} {x : Int32} (hn : gi σ 1 = nI n) (h60 : n ≤ 60) (h : Rf n x) : f_E_partsOf N σ x = some (atI (ga σ 6) 0 x, σ) := by
  unfold f_E_partsOf
  rcases h with rfl | ⟨i, hi, rfl⟩
  · rw [x_has_no (Or.inl (by decide)), bd_eq, if_pos rfl]; rfl
  · rw [x_has_yes hn hi h60, bd_eq, if_neg (by decide), ckb_nI (by omega) (by decide), atI_yes (by omega), nI_clamp (by omega)]
theorem x_likeOf {N : Nat} {σ : St} {n : Nat} {x : Int32} (hn : gi σ 1 = nI n) (h60 : n ≤ 60) (h : Rf n x) : f_E_likeOf N σ x = some (atI (ga σ 7) (-1) x, σ) := by
  unfold f_E_likeOf
  rcases h with rfl | ⟨i, hi, rfl⟩
  · rw [x_has_no (Or.inl (by decide)), bd_eq, if_pos rfl]; rfl
  · rw [x_has_yes hn hi h60, bd_eq, if_neg (by decide), ckb_nI (by omega) (by decide), atI_yes (by omega), nI_clamp (by omega)]
theorem x_bitsOf {N : Nat} {σ : St} {n : Nat} {x : Int32} (hn : gi σ 1 = nI n) (h60 : n ≤ 60) (h : Rf n x) : f_E_bitsOf N σ x = some (atI (ga σ 9) 0 x, σ) := by
  unfold f_E_bitsOf
  rcases h with rfl | ⟨i, hi, rfl⟩
  · rw [x_has_no (Or.inl (by decide)), bd_eq, if_pos rfl]; rfl
  · rw [x_has_yes hn hi h60, bd_eq, if_neg (by decide), ckb_nI (by omega) (by decide), atI_yes (by omega), nI_clamp (by omega)]
theorem x_bitsOf1 {N : Nat} {σ : St} {n : Nat} {x : Int32} (hn : gi σ 1 = nI n) (h60 : n ≤ 60) (h : Rf n x) : f_E_bitsOf_1 N σ x = some (atI (ga σ 8) 0 x, σ) := by
  unfold f_E_bitsOf_1
  rcases h with rfl | ⟨i, hi, rfl⟩
  · rw [x_has_no (Or.inl (by decide)), bd_eq, if_pos rfl]; rfl
  · rw [x_has_yes hn hi h60, bd_eq, if_neg (by decide), ckb_nI (by omega) (by decide), atI_yes (by omega), nI_clamp (by omega)]
/-- i and n look alike to X -/
def Qk (σ : St) (n i : Nat) : Prop := ga σ 3 i = ga σ 3 n ∧ gb σ 1 i = gb σ 1 n ∧ atI (ga σ 7) (-1) (ga σ 4 i) = atI (ga σ 7) (-1) (ga σ 4 n) ∧ atI (ga σ 7) (-1) (ga σ 5 i) = atI (ga σ 7) (-1) (ga σ 5 n)
theorem x_fl (N : Nat) {σ : St} {n : Nat} (hn : gi σ 1 = nI n) (h60 : n < 60) (hf : ∀ i, i ≤ n → Rf n (ga σ 4 i) ∧ Rf n (ga σ 5 i)) :
    ∀ (d j fu : Nat), j + d = n → d < fu → ∃ r, f_E_firstLike_2 N fu σ (nI n) (nI j) = some (r, σ) ∧ ((∃ i, j ≤ i ∧ i < n ∧ Qk σ n i ∧ r = ga σ 7 i) ∨ ((∀ i, j ≤ i → i < n → ¬ Qk σ n i) ∧ r = nI n)) := by
  intro d
  induction d with
  | zero =>
    intro j fu hj hfu
    obtain ⟨fu, rfl⟩ : ∃ m, fu = m + 1 := ⟨fu - 1, by omega⟩
    have hjn : j = n := by omega
    subst hjn
    refine ⟨nI j, ?_, Or.inr ⟨fun i h1 h2 => by omega, rfl⟩⟩
    show f_E_firstLike_2_b N (f_E_firstLike_2 N fu) σ (nI j) (nI j) = _
    unfold f_E_firstLike_2_b
    rw [if_pos (nI_le (Nat.le_refl _) (by omega))]
  | succ d ih =>
    intro j fu hj hfu
    obtain ⟨fu, rfl⟩ : ∃ m, fu = m + 1 := ⟨fu - 1, by omega⟩
    have e : f_E_firstLike_2 N (fu + 1) σ (nI n) (nI j) = f_E_firstLike_2_b N (f_E_firstLike_2 N fu) σ (nI n) (nI j) := rfl
    obtain ⟨r, k1, k2⟩ := ih (j + 1) fu (by omega) (by omega)
    have step : (¬ Qk σ n j → f_E_firstLike_2 N (fu + 1) σ (nI n) (nI j) = f_E_firstLike_2 N fu σ (nI n) (nI (j + 1))) ∧ (Qk σ n j → f_E_firstLike_2 N (fu + 1) σ (nI n) (nI j) = some (ga σ 7 j, σ)) := by
      rw [e]
      unfold f_E_firstLike_2_b
      rw [if_neg (nI_ge (by omega) (by omega))]
      simp only [ckb_nI (show j < 60 by omega) (show 60 < 2 ^ 31 by decide), ckb_nI h60 (show 60 < 2 ^ 31 by decide), nI_clamp (show j < 2 ^ 31 by omega), nI_clamp (show n < 2 ^ 31 by omega), x_likeOf hn (by omega) (hf j (by omega)).1, x_likeOf hn (by omega) (hf j (by omega)).2, x_likeOf hn (by omega) (hf n (by omega)).1, x_likeOf hn (by omega) (hf n (by omega)).2, bd_eq, cmp_eq, nI_1]
      constructor
      · intro q
        split
        · rename_i c1
          split
          · rename_i c2
            split
            · rename_i c3
              split
              · rename_i c4
                exact absurd ⟨c1, c2, c3, c4⟩ q
              · rfl
            · rfl
          · rfl
        · rfl
      · intro ⟨c1, c2, c3, c4⟩
        rw [if_pos c1, if_pos c2, if_pos c3, if_pos c4]
    by_cases q : Qk σ n j
    · exact ⟨_, step.2 q, Or.inl ⟨j, Nat.le_refl _, by omega, q, rfl⟩⟩
    · refine ⟨r, (step.1 q).trans k1, ?_⟩
      rcases k2 with ⟨i, a1, a2, a3, a4⟩ | ⟨a1, a2⟩
      · exact Or.inl ⟨i, by omega, a2, a3, a4⟩
      · refine Or.inr ⟨fun i b1 b2 => ?_, a2⟩
        by_cases z : i = j
        · rw [z]; exact q
        · exact a1 i (by omega) b2
def xad (σ : St) (n : Nat) (k : Int32) (v : Int64) (a b p cb ab : Int32) : St :=
  wa (wa (wa (wa (wa (wl (wa σ 3 (nI n) k) 1 (nI n) v) 4 (nI n) a) 5 (nI n) b) 6 (nI n) p) 8 (nI n) cb) 9 (nI n) ab
def xadd (σ : St) (n : Nat) (k : Int32) (v : Int64) (a b p cb ab l : Int32) : St := si (wa (xad σ n k v a b p cb ab) 7 (nI n) l) 1 (nI (n + 1))
theorem x_add (N : Nat) {σ : St} {n : Nat} {k a b : Int32} {v : Int64} (hN : 60 < N) (hn : gi σ 1 = nI n) (h60 : n < 60) (ha : Rf n a) (hb : Rf n b) (hf : ∀ i, i < n → Rf n (ga σ 4 i) ∧ Rf n (ga σ 5 i)) (p cb ab : Int32)
    (hp : p = 1 + atI (ga σ 6) 0 a + atI (ga σ 6) 0 b) (hc : cb = if k = 15 then 1 <<< (v.toInt32 &&& 31) else atI (ga σ 8) 0 a ||| atI (ga σ 8) 0 b) (hg : ab = if k = 16 then 1 <<< (v.toInt32 &&& 31) else atI (ga σ 9) 0 a ||| atI (ga σ 9) 0 b) :
    ∃ l, f_E_add N σ k v a b = some (nI n, xadd σ n k v a b p cb ab l) ∧ ((∃ i, i < n ∧ Qk (xad σ n k v a b p cb ab) n i ∧ l = ga σ 7 i) ∨ ((∀ i, i < n → ¬ Qk (xad σ n k v a b p cb ab) n i) ∧ l = nI n)) := by
  have ef : ∀ i, ga (xad σ n k v a b p cb ab) 4 i = if i = n then a else ga σ 4 i := by
    intro i
    show upd (ga σ 4) (nI n).toNatClampNeg a i = _
    rw [nI_clamp (by omega), upd_at]
  have es : ∀ i, ga (xad σ n k v a b p cb ab) 5 i = if i = n then b else ga σ 5 i := by
    intro i
    show upd (ga σ 5) (nI n).toNatClampNeg b i = _
    rw [nI_clamp (by omega), upd_at]
  have hf' : ∀ i, i ≤ n → Rf n (ga (xad σ n k v a b p cb ab) 4 i) ∧ Rf n (ga (xad σ n k v a b p cb ab) 5 i) := by
    intro i hi
    rw [ef, es]
    by_cases c : i = n
    · rw [if_pos c, if_pos c]; exact ⟨ha, hb⟩
    · rw [if_neg c, if_neg c]; exact hf i (by omega)
  obtain ⟨l, q1, q2⟩ := x_fl N (σ := xad σ n k v a b p cb ab) (n := n) hn h60 hf' n 0 N (by omega) (by omega)
  have q1' : f_E_firstLike N (xad σ n k v a b p cb ab) (nI n) = some (l, xad σ n k v a b p cb ab) := q1
  refine ⟨l, ?_, ?_⟩
  · have e143 : f_E_add_143 N (wa (wa (wa (wa (wl (wa σ 3 (nI n) k) 1 (nI n) v) 4 (nI n) a) 5 (nI n) b) 6 (nI n) p) 8 (nI n) cb) (nI n) ab (nI n) = some (nI n, xadd σ n k v a b p cb ab l) := by
      unfold f_E_add_143
      rw [ckb_nI h60 (by decide), nm_eq]
      show bd (f_E_firstLike N (xad σ n k v a b p cb ab) (nI n)) _ = _
      rw [q1', bd_eq, ckb_nI h60 (by decide), nm_eq, nm_eq]
      have eg : gi (wa (xad σ n k v a b p cb ab) 7 (nI n) l) 1 = nI n := hn
      rw [eg, nI_1]
      rfl
    have e102 : f_E_add_102 N (wa (wa (wa (wl (wa σ 3 (nI n) k) 1 (nI n) v) 4 (nI n) a) 5 (nI n) b) 6 (nI n) p) k v a b (nI n) cb (nI n) = some (nI n, xadd σ n k v a b p cb ab l) := by
      unfold f_E_add_102
      rw [ckb_nI h60 (by decide), nm_eq]
      by_cases c : k = 16
      · rw [if_pos c]
        rw [if_pos c] at hg
        rw [← hg]
        exact e143
      · rw [if_neg c]
        rw [if_neg c] at hg
        have b1 : ∀ x, Rf n x → f_E_bitsOf N (wa (wa (wa (wa (wl (wa σ 3 (nI n) k) 1 (nI n) v) 4 (nI n) a) 5 (nI n) b) 6 (nI n) p) 8 (nI n) cb) x = some (atI (ga σ 9) 0 x, wa (wa (wa (wa (wl (wa σ 3 (nI n) k) 1 (nI n) v) 4 (nI n) a) 5 (nI n) b) 6 (nI n) p) 8 (nI n) cb) := fun x hx => x_bitsOf hn (by omega) hx
        rw [b1 a ha, bd_eq, b1 b hb, bd_eq, ← hg]
        exact e143
    unfold f_E_add
    rw [hn]
    simp only [ckb_nI h60 (show 60 < 2 ^ 31 by decide), nm_eq]
    have p1 : ∀ x, Rf n x → f_E_partsOf N (wa (wa (wl (wa σ 3 (nI n) k) 1 (nI n) v) 4 (nI n) a) 5 (nI n) b) x = some (atI (ga σ 6) 0 x, wa (wa (wl (wa σ 3 (nI n) k) 1 (nI n) v) 4 (nI n) a) 5 (nI n) b) := fun x hx => x_partsOf hn (by omega) hx
    rw [p1 a ha, bd_eq, p1 b hb, bd_eq, ← hp]
    by_cases c : k = 15
    · rw [if_pos c]
      rw [if_pos c] at hc
      rw [← hc]
      exact e102
    · rw [if_neg c]
      rw [if_neg c] at hc
      have b1 : ∀ x, Rf n x → f_E_bitsOf_1 N (wa (wa (wa (wl (wa σ 3 (nI n) k) 1 (nI n) v) 4 (nI n) a) 5 (nI n) b) 6 (nI n) p) x = some (atI (ga σ 8) 0 x, wa (wa (wa (wl (wa σ 3 (nI n) k) 1 (nI n) v) 4 (nI n) a) 5 (nI n) b) 6 (nI n) p) := fun x hx => x_bitsOf1 hn (by omega) hx
      rw [b1 a ha, bd_eq, b1 b hb, bd_eq, ← hc]
      exact e102
  · rcases q2 with ⟨i, a1, a2, a3, a4⟩ | ⟨a1, a2⟩
    · exact Or.inl ⟨i, a2, a3, a4⟩
    · exact Or.inr ⟨fun i hi => a1 i (Nat.zero_le _) hi, a2⟩

