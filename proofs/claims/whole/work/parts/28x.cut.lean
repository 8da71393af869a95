/-! the reference leaves out, sorts and cuts (own rows) -/
theorem kf_cover {V : Nat → Nat → Option Int64} {ni : Nat} : ∀ {r y : Nat}, y < r → ∃ x, x ∈ kf true V ni r ∧ ∀ i, i < ni → V x i = V y i
  | r + 1, y, h => by
    have up' : ∀ x, x ∈ kf true V ni r → x ∈ kf true V ni (r + 1) := by
      intro x hx
      show x ∈ (if kpB true V ni r = true then kf true V ni r ++ [r] else kf true V ni r)
      split
      · exact List.mem_append_left _ hx
      · exact hx
    by_cases c : y < r
    · obtain ⟨x, h1, h2⟩ := kf_cover (r := r) c
      exact ⟨x, up' x h1, h2⟩
    · have e : y = r := by omega
      subst e
      by_cases k : kpB true V ni y = true
      · refine ⟨y, ?_, fun _ _ => rfl⟩
        show y ∈ (if kpB true V ni y = true then kf true V ni y ++ [y] else kf true V ni y)
        rw [if_pos k]
        exact List.mem_append_right _ List.mem_cons_self
      · unfold kpB at k
        simp only [Bool.not_true, Bool.false_or, decide_eq_true_eq] at k
        have : ∃ z, z < y ∧ ∀ i, i < ni → V z i = V y i := Classical.not_not.mp (fun u => k (fun z hz q => u ⟨z, hz, q⟩))
        obtain ⟨z, hz, q⟩ := this
        obtain ⟨x, h1, h2⟩ := kf_cover (r := y) hz
        exact ⟨x, up' x h1, fun i hi => (h2 i hi).trans (q i hi)⟩
theorem kp_iff {V : Nat → Nat → Option Int64} {ni r : Nat} : kpB true V ni r = true ↔ ∀ y, y ∈ kf true V ni r → ¬ ∀ i, i < ni → V y i = V r i := by
  unfold kpB
  simp only [Bool.not_true, Bool.false_or, decide_eq_true_eq]
  constructor
  · intro h y hy
    exact h y (kf_mem hy)
  · intro h y hy q
    obtain ⟨x, h1, h2⟩ := kf_cover (V := V) (ni := ni) hy
    exact h x h1 (fun i hi => (h2 i hi).trans (q i hi))
theorem FwP.mono {Q Q' : Nat → Nat → Prop} {l : List Nat} {off : Nat} (h : FwP Q off l) (k : ∀ p x, off ≤ p → Q p x → Q' p x) : FwP Q' off l := h.imp (fun p x h1 _ q => k p x h1 q)
theorem m_leave (N : Nat) (hN : 500 < N) {V : Nat → Nat → Option Int64} {ni k : Nat} {ρ : St} (h6 : ni ≤ 6) (hk : k ≤ 200) (hi : gi ρ 7 = nI ni) (ha : gi ρ 12 = nI k) (hc : ∀ r, r < k → McR V ni ρ r r) :
    ∃ ρ1, f_M_leaveOut N ρ = some ((), si ρ1 12 (nI (kf true V ni k).length)) ∧ MC ρ ρ1 ∧ FwP (McR V ni ρ1) 0 (kf true V ni k) := by
  have inner : ∀ (k4 : St → Int32 → Int32 → Option (Unit × St)) (r n : Nat) (ρ1 : St), MC ρ ρ1 → r ≤ 200 → n ≤ 200 → McR V ni ρ1 r r → ∀ (l : List Nat) (i fu : Nat) (s : Int32), i + l.length = n → l.length < fu → (s = 0 ∨ s = 1) → FwP (McR V ni ρ1) i l → ∃ b : Int32, (b = 0 ∨ b = 1) ∧ (b = 1 ↔ s = 1 ∨ ∃ y, y ∈ l ∧ ∀ i, i < ni → V y i = V r i) ∧ f_M_leaveOut_17 N k4 fu ρ1 (nI n) (nI r) s (nI i) = if b = 0 then (bd (f_M_moveRow N ρ1 (nI n) (nI r)) fun _ s3 => k4 s3 (nI (n + 1)) (nI (r + 1))) else k4 ρ1 (nI n) (nI (r + 1)) := by
    intro k4 r n ρ1 mc hr hn mr l
    induction l with
    | nil =>
      intro i fu s hl hfu hs fw
      obtain ⟨fu, rfl⟩ : ∃ q, fu = q + 1 := ⟨fu - 1, by omega⟩
      simp only [List.length_nil, Nat.add_zero] at hl
      subst hl
      refine ⟨s, hs, ⟨fun z => Or.inl z, fun z => by rcases z with z | ⟨y, hy, -⟩; exact z; cases hy⟩, ?_⟩
      show f_M_leaveOut_17_b N k4 (f_M_leaveOut_17 N k4 fu) ρ1 (nI i) (nI r) s (nI i) = _
      unfold f_M_leaveOut_17_b
      rw [if_pos (nI_le (Nat.le_refl _) (by omega)), nI_1, nI_1]
    | cons y l ih =>
      intro i fu s hl hfu hs fw
      obtain ⟨fu, rfl⟩ : ∃ q, fu = q + 1 := ⟨fu - 1, by omega⟩
      simp only [List.length_cons] at hl hfu
      have e0 : f_M_leaveOut_17 N k4 (fu + 1) ρ1 (nI n) (nI r) s (nI i) = f_M_leaveOut_17_b N k4 (f_M_leaveOut_17 N k4 fu) ρ1 (nI n) (nI r) s (nI i) := rfl
      have go : ∀ v : Int32, (v = 0 ∨ v = 1) → (v = 1 ↔ (s = 1 ∨ ∀ i, i < ni → V y i = V r i)) → f_M_leaveOut_17 N k4 (fu + 1) ρ1 (nI n) (nI r) s (nI i) = f_M_leaveOut_17 N k4 fu ρ1 (nI n) (nI r) v (nI (i + 1)) → ∃ b : Int32, (b = 0 ∨ b = 1) ∧ (b = 1 ↔ s = 1 ∨ ∃ z, z ∈ y :: l ∧ ∀ i, i < ni → V z i = V r i) ∧ f_M_leaveOut_17 N k4 (fu + 1) ρ1 (nI n) (nI r) s (nI i) = if b = 0 then (bd (f_M_moveRow N ρ1 (nI n) (nI r)) fun _ s3 => k4 s3 (nI (n + 1)) (nI (r + 1))) else k4 ρ1 (nI n) (nI (r + 1)) := by
        intro v hv hb e
        obtain ⟨b, b1, b2, b3⟩ := ih (i + 1) fu v (by omega) (by omega) hv fw.2
        refine ⟨b, b1, b2.trans ?_, by rw [e]; exact b3⟩
        rw [hb]
        simp only [List.mem_cons]
        constructor
        · rintro ((z | z) | ⟨u, hu, z⟩)
          · exact Or.inl z
          · exact Or.inr ⟨y, Or.inl rfl, z⟩
          · exact Or.inr ⟨u, Or.inr hu, z⟩
        · rintro (z | ⟨u, rfl | hu, z⟩)
          · exact Or.inl (Or.inl z)
          · exact Or.inl (Or.inr z)
          · exact Or.inr ⟨u, hu, z⟩
      by_cases c : s = 0
      · obtain ⟨q, q1, q2, q3⟩ := m_same N (by omega) (ρ := ρ1) (p := i) (q := r) ((mc.1 _).trans hi) h6 (by omega) hr fw.1 mr
        by_cases c2 : q = 0
        · refine go 0 (Or.inl rfl) ⟨fun z => absurd z (by decide), fun z => ?_⟩ ?_
          · rcases z with z | z
            · rw [c] at z; exact absurd z (by decide)
            · have := q3.mpr z; rw [c2] at this; exact absurd this (by decide)
          · rw [e0]
            unfold f_M_leaveOut_17_b
            rw [if_neg (nI_ge (by omega) (by omega)), if_pos c, q1, bd_eq, if_pos c2, nI_1]
        · have q11 : q = 1 := by rcases q2 with z | z; exact absurd z c2; exact z
          refine go 1 (Or.inr rfl) ⟨fun _ => Or.inr (q3.mp q11), fun _ => rfl⟩ ?_
          rw [e0]
          unfold f_M_leaveOut_17_b
          rw [if_neg (nI_ge (by omega) (by omega)), if_pos c, q1, bd_eq, if_neg c2, nI_1]
      · have s1 : s = 1 := by rcases hs with z | z; exact absurd z c; exact z
        refine go 1 (Or.inr rfl) ⟨fun _ => Or.inl s1, fun _ => rfl⟩ ?_
        rw [e0]
        unfold f_M_leaveOut_17_b
        rw [if_neg (nI_ge (by omega) (by omega)), if_neg c, nI_1]
  have outer : ∀ (d r fu : Nat) (ρ1 : St), r + d = k → d < fu → MC ρ ρ1 → FwP (McR V ni ρ1) 0 (kf true V ni r) → (∀ p, r ≤ p → p < k → McR V ni ρ1 p p) → ∃ ρ2, f_M_leaveOut_4 N fu ρ1 (nI (kf true V ni r).length) (nI r) = some ((), si ρ2 12 (nI (kf true V ni k).length)) ∧ MC ρ ρ2 ∧ FwP (McR V ni ρ2) 0 (kf true V ni k) := by
    intro d
    induction d with
    | zero =>
      intro r fu ρ1 hd hfu mc fw hp
      obtain ⟨fu, rfl⟩ : ∃ q, fu = q + 1 := ⟨fu - 1, by omega⟩
      have e : r = k := by omega
      subst e
      refine ⟨ρ1, ?_, mc, fw⟩
      show f_M_leaveOut_4_b N (f_M_leaveOut_4 N fu) ρ1 (nI (kf true V ni r).length) (nI r) = _
      unfold f_M_leaveOut_4_b
      rw [mc.1, ha, if_pos (nI_le (Nat.le_refl _) (by omega)), nm_eq]
    | succ d ih =>
      intro r fu ρ1 hd hfu mc fw hp
      obtain ⟨fu, rfl⟩ : ∃ q, fu = q + 1 := ⟨fu - 1, by omega⟩
      have len := kf_len (D := true) (V := V) (ni := ni) r
      have e0 : f_M_leaveOut_4 N (fu + 1) ρ1 (nI (kf true V ni r).length) (nI r) = f_M_leaveOut_4_b N (f_M_leaveOut_4 N fu) ρ1 (nI (kf true V ni r).length) (nI r) := rfl
      obtain ⟨b, b1, b2, b3⟩ := inner (f_M_leaveOut_4 N fu) r (kf true V ni r).length ρ1 mc (by omega) (by omega) (hp r (Nat.le_refl _) (by omega)) (kf true V ni r) 0 N 0 (by omega) (by omega) (Or.inl rfl) fw
      have e1 : f_M_leaveOut_4 N (fu + 1) ρ1 (nI (kf true V ni r).length) (nI r) = if b = 0 then (bd (f_M_moveRow N ρ1 (nI (kf true V ni r).length) (nI r)) fun _ s3 => f_M_leaveOut_4 N fu s3 (nI ((kf true V ni r).length + 1)) (nI (r + 1))) else f_M_leaveOut_4 N fu ρ1 (nI (kf true V ni r).length) (nI (r + 1)) := by
        rw [e0]
        unfold f_M_leaveOut_4_b
        rw [mc.1, ha, if_neg (nI_ge (by omega) (by omega))]
        exact b3
      rw [e1]
      by_cases c : b = 0
      · rw [if_pos c]
        have kp : kpB true V ni r = true := kp_iff.mpr (fun y hy q => by have := b2.mpr (Or.inr ⟨y, hy, q⟩); rw [c] at this; exact absurd this (by decide))
        have kfs : kf true V ni (r + 1) = kf true V ni r ++ [r] := by
          show (if kpB true V ni r = true then kf true V ni r ++ [r] else kf true V ni r) = _
          rw [if_pos kp]
        obtain ⟨ρ2, m1, m2, m3, m4⟩ := m_move N (by omega) (ρ := ρ1) (p := (kf true V ni r).length) (q := r) (x := r) ((mc.1 _).trans hi) h6 (by omega) (by omega) (hp r (Nat.le_refl _) (by omega))
        rw [m1, bd_eq]
        have fw2 : FwP (McR V ni ρ2) 0 (kf true V ni (r + 1)) := by
          rw [kfs]
          refine FwP.snoc (fw.imp (fun p x h1 h2 q => m4 p x (by omega) q)) ?_
          rw [Nat.zero_add]
          exact m3
        obtain ⟨ρ3, z1, z2, z3⟩ := ih (r + 1) fu ρ2 (by omega) (by omega) (mc.trans m2) fw2 (fun p h1 h2 => m4 p p (by omega) (hp p (by omega) h2))
        rw [kfs] at z1
        simp only [List.length_append, List.length_cons, List.length_nil, Nat.zero_add] at z1
        exact ⟨ρ3, z1, z2, z3⟩
      · rw [if_neg c]
        have b11 : b = 1 := by rcases b1 with z | z; exact absurd z c; exact z
        have kp : ¬ kpB true V ni r = true := by
          rcases b2.mp b11 with z | ⟨y, hy, q⟩
          · exact absurd z (by decide)
          · exact fun u => kp_iff.mp u y hy q
        have kfs : kf true V ni (r + 1) = kf true V ni r := by
          show (if kpB true V ni r = true then kf true V ni r ++ [r] else kf true V ni r) = _
          rw [if_neg kp]
        have := ih (r + 1) fu ρ1 (by omega) (by omega) mc (by rw [kfs]; exact fw) (fun p h1 h2 => hp p (by omega) h2)
        rw [kfs] at this
        exact this
  exact outer k 0 N ρ (by omega) (by omega) MC.rfl trivial (fun p _ h2 => hc p h2)
theorem m_ins (N : Nat) (hN : 500 < N) {V : Nat → Nat → Option Int64} {ni no r x : Nat} {oI : Nat → Nat} {oD : Nat → Bool} {ρ : St} {rest : List Nat} (k2 : St → Int32 → Option (Unit × St)) (h6 : ni ≤ 6) (h4 : no ≤ 4) (hi : gi ρ 7 = nI ni) (ho : gi ρ 8 = nI no) (hI : ∀ k, k < no → oI k < ni ∧ ga ρ 16 k = nI (oI k) ∧ (ga ρ 17 k = 0 ↔ ¬ oD k = true)) (hr : r < 200) :
    ∀ (B A : List Nat) (ρ1 : St) (fu : Nat), MC ρ ρ1 → B.length + A.length = r → B.length < fu → McR V ni ρ1 200 x → SkP (McR V ni ρ1) 0 B → SkP (McR V ni ρ1) (B.length + 1) A → FwP (McR V ni ρ1) (r + 1) rest → ∃ ρ2, f_M_sort_20 N k2 fu ρ1 (nI r) (nI B.length) = k2 ρ2 (nI (r + 1)) ∧ MC ρ ρ2 ∧ SkP (McR V ni ρ2) 0 (A ++ ins (fun a b => bfB V oI oD a b no 0) x B) ∧ FwP (McR V ni ρ2) (r + 1) rest := by
  have fin : ∀ (B A : List Nat) (ρ1 : St), MC ρ ρ1 → B.length + A.length = r → McR V ni ρ1 200 x → SkP (McR V ni ρ1) 0 B → SkP (McR V ni ρ1) (B.length + 1) A → FwP (McR V ni ρ1) (r + 1) rest → ∃ ρ2, f_M_sort_51 N k2 ρ1 (nI r) (nI B.length) = k2 ρ2 (nI (r + 1)) ∧ MC ρ ρ2 ∧ SkP (McR V ni ρ2) 0 (A ++ x :: B) ∧ FwP (McR V ni ρ2) (r + 1) rest := by
    intro B A ρ1 mc hl hx s1 s2 fw
    obtain ⟨ρ2, m1, m2, m3, m4⟩ := m_move N (by omega) (ρ := ρ1) (p := B.length) (q := 200) (x := x) ((mc.1 _).trans hi) h6 (by omega) (by omega) hx
    have m1 : f_M_moveRow N ρ1 (nI B.length) 200 = some ((), ρ2) := m1
    refine ⟨ρ2, ?_, mc.trans m2, ?_, fw.imp (fun p y h1 h2 q => m4 p y (by omega) q)⟩
    · unfold f_M_sort_51
      rw [m1, bd_eq, nI_1]
    · have s2' : SkP (McR V ni ρ2) (0 + (x :: B).length) A := by
        rw [show 0 + (x :: B).length = B.length + 1 by simp only [List.length_cons]; omega]
        exact s2.imp (fun p y h1 h2 _ q => m4 p y (by omega) q)
      exact SkP.app s2' ⟨by rw [Nat.zero_add]; exact m3, s1.imp (fun p y h1 h2 _ q => m4 p y (by omega) q)⟩
  intro B
  induction B with
  | nil =>
    intro A ρ1 fu mc hl hfu hx s1 s2 fw
    obtain ⟨fu, rfl⟩ : ∃ q, fu = q + 1 := ⟨fu - 1, by omega⟩
    obtain ⟨ρ2, z1, z2, z3, z4⟩ := fin [] A ρ1 mc hl hx s1 s2 fw
    refine ⟨ρ2, ?_, z2, z3, z4⟩
    show f_M_sort_20_b N k2 (f_M_sort_20 N k2 fu) ρ1 (nI r) (nI 0) = _
    unfold f_M_sort_20_b
    rw [if_pos (show nI 0 ≤ 0 by decide)]
    exact z1
  | cons b B ih =>
    intro A ρ1 fu mc hl hfu hx s1 s2 fw
    obtain ⟨fu, rfl⟩ : ∃ q, fu = q + 1 := ⟨fu - 1, by omega⟩
    simp only [List.length_cons] at hl hfu
    have sb : McR V ni ρ1 B.length b := by have := s1.1; rw [Nat.zero_add] at this; exact this
    have eo : ga ρ1 16 = ga ρ 16 := mc.2.1 _ (by decide)
    have ed : ga ρ1 17 = ga ρ 17 := mc.2.1 _ (by decide)
    obtain ⟨q, q1, q2, q3⟩ := m_before N (by omega) (V := V) (oI := oI) (oD := fun k => oD k = true) (ρ := ρ1) (p := 200) (q := B.length) (x := x) (y := b) h6 h4 ((mc.1 _).trans ho) (fun k hk => by rw [eo, ed]; exact hI k hk) (by omega) (by omega) hx sb
    have q1 : f_M_isBefore N ρ1 200 (nI B.length) = some (q, ρ1) := q1
    have e0 : f_M_sort_20 N k2 (fu + 1) ρ1 (nI r) (nI (B.length + 1)) = f_M_sort_20_b N k2 (f_M_sort_20 N k2 fu) ρ1 (nI r) (nI (B.length + 1)) := rfl
    have e1 : f_M_sort_20 N k2 (fu + 1) ρ1 (nI r) (nI (B.length + 1)) = if q = 0 then f_M_sort_51 N k2 ρ1 (nI r) (nI (B.length + 1)) else bd (f_M_moveRow N ρ1 (nI (B.length + 1)) (nI B.length)) fun _ s8 => f_M_sort_20 N k2 fu s8 (nI r) (nI B.length) := by
      rw [e0]
      unfold f_M_sort_20_b
      rw [if_neg (show ¬ nI (B.length + 1) ≤ 0 from nI_nle (by omega) (by omega)), nI_pred, q1, bd_eq, em1, nI_pred]
    have gi' : (fun a b => bfB V oI oD a b no 0) x b = true ↔ q = 1 := by
      show bfB V oI oD x b no 0 = true ↔ _
      rw [bfB_iff, q3]
    show ∃ ρ2, f_M_sort_20 N k2 (fu + 1) ρ1 (nI r) (nI (B.length + 1)) = k2 ρ2 (nI (r + 1)) ∧ _
    rw [e1]
    unfold ins
    by_cases c : q = 0
    · rw [if_pos c, if_neg (fun z => by have := gi'.mp z; rw [c] at this; exact absurd this (by decide))]
      exact fin (b :: B) A ρ1 mc (by simp only [List.length_cons]; omega) hx s1 s2 fw
    · have q11 : q = 1 := by rcases q2 with z | z; exact absurd z c; exact z
      rw [if_neg c, if_pos (gi'.mpr q11)]
      obtain ⟨ρ2, m1, m2, m3, m4⟩ := m_move N (by omega) (ρ := ρ1) (p := B.length + 1) (q := B.length) (x := b) ((mc.1 _).trans hi) h6 (by omega) (by omega) sb
      rw [m1, bd_eq]
      obtain ⟨ρ3, z1, z2, z3, z4⟩ := ih (A ++ [b]) ρ2 fu (mc.trans m2) (by simp only [List.length_append, List.length_cons, List.length_nil]; omega) (by omega) (m4 200 x (by omega) hx) (s1.2.imp (fun p y h1 h2 _ u => m4 p y (by omega) u)) (SkP.snoc (s2.imp (fun p y h1 h2 _ u => m4 p y (by simp only [List.length_cons] at h1; omega) u)) m3) (fw.imp (fun p y h1 h2 u => m4 p y (by omega) u))
      refine ⟨ρ3, z1, z2, ?_, z4⟩
      rw [List.append_assoc] at z3
      exact z3
theorem m_sortl (N : Nat) (hN : 500 < N) {V : Nat → Nat → Option Int64} {ni no : Nat} {oI : Nat → Nat} {oD : Nat → Bool} {ρ : St} (h6 : ni ≤ 6) (h4 : no ≤ 4) (hi : gi ρ 7 = nI ni) (ho : gi ρ 8 = nI no) (hI : ∀ k, k < no → oI k < ni ∧ ga ρ 16 k = nI (oI k) ∧ (ga ρ 17 k = 0 ↔ ¬ oD k = true)) {L : Nat} (hL : L ≤ 200) (ha : gi ρ 12 = nI L) :
    ∀ (rest S : List Nat) (ρ1 : St) (fu : Nat), MC ρ ρ1 → S.length + rest.length = L → rest.length < fu → SkP (McR V ni ρ1) 0 S → FwP (McR V ni ρ1) S.length rest → ∃ ρ2, f_M_sort_2 N fu ρ1 (nI S.length) = some ((), ρ2) ∧ MC ρ ρ2 ∧ SkP (McR V ni ρ2) 0 (rest.foldl (fun s x => ins (fun a b => bfB V oI oD a b no 0) x s) S) := by
  intro rest
  induction rest with
  | nil =>
    intro S ρ1 fu mc hl hfu s1 fw
    obtain ⟨fu, rfl⟩ : ∃ q, fu = q + 1 := ⟨fu - 1, by omega⟩
    refine ⟨ρ1, ?_, mc, s1⟩
    show f_M_sort_2_b N (f_M_sort_2 N fu) ρ1 (nI S.length) = _
    unfold f_M_sort_2_b
    simp only [List.length_nil, Nat.add_zero] at hl
    rw [mc.1, ha, if_pos (nI_le (by omega) (by omega))]
  | cons x rest ih =>
    intro S ρ1 fu mc hl hfu s1 fw
    obtain ⟨fu, rfl⟩ : ∃ q, fu = q + 1 := ⟨fu - 1, by omega⟩
    simp only [List.length_cons] at hl hfu
    obtain ⟨ρ2, m1, m2, m3, m4⟩ := m_move N (by omega) (ρ := ρ1) (p := 200) (q := S.length) (x := x) ((mc.1 _).trans hi) h6 (by omega) (by omega) fw.1
    have m1 : f_M_moveRow N ρ1 200 (nI S.length) = some ((), ρ2) := m1
    obtain ⟨ρ3, z1, z2, z3, z4⟩ := m_ins N hN (ρ := ρ) (x := x) (rest := rest) (f_M_sort_2 N fu) h6 h4 hi ho hI (show S.length < 200 by omega) S [] ρ2 N (mc.trans m2) (by simp) (by omega) m3 (s1.imp (fun p y h1 h2 _ u => m4 p y (by omega) u)) trivial (fw.2.imp (fun p y h1 h2 u => m4 p y (by omega) u))
    have e1 : f_M_sort_2 N (fu + 1) ρ1 (nI S.length) = f_M_sort_2 N fu ρ3 (nI (S.length + 1)) := by
      show f_M_sort_2_b N (f_M_sort_2 N fu) ρ1 (nI S.length) = _
      unfold f_M_sort_2_b
      rw [mc.1, ha, if_neg (nI_ge (by omega) (by omega)), m1, bd_eq, z1]
    rw [e1, List.foldl_cons]
    have := ih (ins (fun a b => bfB V oI oD a b no 0) x S) ρ3 fu z2 (by rw [ins_len]; omega) (by omega) z3 (by rw [ins_len]; exact z4)
    rw [ins_len] at this
    exact this
theorem m_sort (N : Nat) (hN : 500 < N) {V : Nat → Nat → Option Int64} {ni no : Nat} {oI : Nat → Nat} {oD : Nat → Bool} {ρ : St} {l : List Nat} (h6 : ni ≤ 6) (h4 : no ≤ 4) (hi : gi ρ 7 = nI ni) (ho : gi ρ 8 = nI no) (hI : ∀ k, k < no → oI k < ni ∧ ga ρ 16 k = nI (oI k) ∧ (ga ρ 17 k = 0 ↔ ¬ oD k = true)) (hL : l.length ≤ 200) (ha : gi ρ 12 = nI l.length) (fw : FwP (McR V ni ρ) 0 l) :
    ∃ ρ2, f_M_sort N ρ = some ((), ρ2) ∧ MC ρ ρ2 ∧ SkP (McR V ni ρ2) 0 (srt (fun a b => bfB V oI oD a b no 0) l) := by
  unfold f_M_sort
  cases l with
  | nil =>
    refine ⟨ρ, ?_, MC.rfl, trivial⟩
    obtain ⟨M, rfl⟩ : ∃ q, N = q + 1 := ⟨N - 1, by omega⟩
    show f_M_sort_2_b (M + 1) (f_M_sort_2 (M + 1) M) ρ 1 = _
    unfold f_M_sort_2_b
    rw [ha, if_pos (show nI ([] : List Nat).length ≤ 1 by decide)]
  | cons x rest =>
    simp only [List.length_cons] at hL ha
    exact m_sortl N hN h6 h4 hi ho hI hL ha rest [x] ρ N MC.rfl (by simp only [List.length_cons, List.length_nil]; omega) (by omega) ⟨fw.1, trivial⟩ fw.2
theorem m_cutl (N : Nat) (hN : 500 < N) {V : Nat → Nat → Option Int64} {ni kp sk c : Nat} {ρ : St} (P : Nat → Nat) (h6 : ni ≤ 6) (hi : gi ρ 7 = nI ni) (h1 : kp ≤ 1000) (h2 : sk ≤ 1000) (hc : c ≤ 200) (e1 : gi ρ 10 = nI kp) (e2 : gi ρ 11 = nI sk) (ha : gi ρ 12 = nI c) (hP : ∀ j, j < c → McR V ni ρ j (P j)) :
    ∃ ρ1, f_M_cut N ρ = some ((), si ρ1 12 (nI (min kp (c - min sk c)))) ∧ MC ρ ρ1 ∧ ∀ j, j < min kp (c - min sk c) → McR V ni ρ1 j (P (min sk c + j)) := by
  have key : ∀ (d n fu : Nat) (ρ1 : St), n + d = min kp (c - min sk c) → d < fu → MC ρ ρ1 → (∀ j, j < n → McR V ni ρ1 j (P (min sk c + j))) → (∀ j, n ≤ j → j < c → McR V ni ρ1 j (P j)) → ∃ ρ2, f_M_cut_7 N fu ρ1 (nI n) (nI (sk + n)) = some ((), si ρ2 12 (nI (min kp (c - min sk c)))) ∧ MC ρ ρ2 ∧ ∀ j, j < min kp (c - min sk c) → McR V ni ρ2 j (P (min sk c + j)) := by
    intro d
    induction d with
    | zero =>
      intro n fu ρ1 hd hfu mc q1 q2
      obtain ⟨fu, rfl⟩ : ∃ q, fu = q + 1 := ⟨fu - 1, by omega⟩
      have e : n = min kp (c - min sk c) := by omega
      refine ⟨ρ1, ?_, mc, by rw [← e]; exact q1⟩
      show f_M_cut_7_b N (f_M_cut_7 N fu) ρ1 (nI n) (nI (sk + n)) = _
      unfold f_M_cut_7_b
      rw [mc.1, ha, mc.1, e1, ← e]
      simp only [nm_eq]
      by_cases z : c ≤ sk + n
      · rw [if_pos (nI_le z (by omega))]
      · rw [if_neg (nI_ge (by omega) (by omega)), if_pos (nI_le (by omega) (by omega))]
    | succ d ih =>
      intro n fu ρ1 hd hfu mc q1 q2
      obtain ⟨fu, rfl⟩ : ∃ q, fu = q + 1 := ⟨fu - 1, by omega⟩
      have sk' : min sk c = sk := by omega
      obtain ⟨ρ2, m1, m2, m3, m4⟩ := m_move N (by omega) (ρ := ρ1) (p := n) (q := sk + n) (x := P (sk + n)) ((mc.1 _).trans hi) h6 (by omega) (by omega) (q2 (sk + n) (by omega) (by omega))
      have st : f_M_cut_7 N (fu + 1) ρ1 (nI n) (nI (sk + n)) = f_M_cut_7 N fu ρ2 (nI (n + 1)) (nI (sk + (n + 1))) := by
        show f_M_cut_7_b N (f_M_cut_7 N fu) ρ1 (nI n) (nI (sk + n)) = _
        unfold f_M_cut_7_b
        rw [mc.1, ha, mc.1, e1, if_neg (nI_ge (by omega) (by omega)), if_neg (nI_ge (by omega) (by omega)), m1, bd_eq, nI_1, nI_1]
        rfl
      rw [st]
      refine ih (n + 1) fu ρ2 (by omega) (by omega) (mc.trans m2) (fun j hj => ?_) (fun j h1 h2 => m4 j _ (by omega) (q2 j (by omega) h2))
      by_cases z : j = n
      · subst z; rw [sk']; exact m3
      · exact m4 j _ z (q1 j (by omega))
  unfold f_M_cut
  rw [e2]
  exact key (min kp (c - min sk c)) 0 N ρ (by omega) (by omega) MC.rfl (fun j hj => by omega) (fun j _ hj => hP j hj)

