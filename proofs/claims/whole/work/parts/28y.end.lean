/-! a run's end: the answer (own rows) -/
def vM (ρ : St) (r i : Nat) : Option Int64 := if ga ρ 18 (6 * r + i) = 1 then none else some (gb ρ 2 (6 * r + i))
theorem cx_of {σ ρ : St} {k ni : Nat} (h : AnsR σ ρ k ni) : CX (vM ρ) ni k σ ∧ ∀ r, r < k → McR (vM ρ) ni ρ r r := by
  obtain ⟨-, -, -, h4⟩ := h
  refine ⟨fun r hr => ?_, fun r hr i hi => ?_⟩
  · obtain ⟨c, nb, b1, b2, b3⟩ := h4 r hr
    refine ⟨⟨nb, b1, b2, fun i hi => ?_⟩, fun i hi => ?_⟩
    · rw [b3 i hi]
      unfold vM
      by_cases z : ga ρ 18 (6 * r + i) = 1
      · rw [if_pos z]; exact ⟨fun _ => rfl, fun _ => z⟩
      · rw [if_neg z]; exact ⟨fun u => absurd u z, fun u => (by cases u)⟩
    · unfold vM
      rcases c i hi with ⟨z1, z2⟩ | ⟨z1, z2⟩
      · rw [if_neg (by rw [z1]; decide), z2]; rfl
      · rw [if_pos z1, z2]; rfl
  · unfold vM
    rcases (h4 r hr).1 i hi with ⟨z1, z2⟩ | ⟨z1, z2⟩
    · rw [if_neg (by rw [z1]; decide)]; exact Or.inr ⟨rfl, z1⟩
    · rw [if_pos z1]; exact Or.inl ⟨rfl, z1⟩
theorem kf_no {V : Nat → Nat → Option Int64} {ni : Nat} {Q : Nat → Nat → Prop} {k : Nat} (h : ∀ r, r < k → Q r r) : ∀ r, r ≤ k → FwP Q 0 (kf false V ni r) ∧ (kf false V ni r).length = r
  | 0, _ => ⟨trivial, rfl⟩
  | r + 1, hr => by
    obtain ⟨a, b⟩ := kf_no (V := V) (ni := ni) h r (by omega)
    have e : kf false V ni (r + 1) = kf false V ni r ++ [r] := rfl
    rw [e]
    refine ⟨FwP.snoc a (by rw [b, Nat.zero_add]; exact h r (by omega)), by simp only [List.length_append, List.length_cons, List.length_nil, b]⟩
theorem run_end (N : Nat) (hN : 500 < N) {σ ρ : St} {nt n m ns ng ni no k : Nat} {w h : Nat → Nat} {τ : Nat → Tr} (d : Dat σ ρ nt n m ns ng ni no w h τ) (hA : AnsR σ ρ k ni) (hw : gi ρ 14 = 0) :
    ∃ σ' ρ', f_A_finish N σ = some ((), σ') ∧ f_M_run_301 N ρ = some (gi σ' 13, ρ') ∧ IvA σ' ρ' ∧ SX σ σ' ∧ SM ρ ρ' ∧ ga σ' 23 = ga σ 23 := by
  obtain ⟨cx, mr⟩ := cx_of hA
  obtain ⟨a1, a2, a3, -⟩ := hA
  have i6 := d.2.2.2.2.1.1
  obtain ⟨o4, o1, o2, o3⟩ := d.2.2.2.2.2.1
  obtain ⟨kp, sk, b1, b2, b3, b4, b5, b6, b7, b8⟩ := d.2.2.2.2.2.2.2.2
  obtain ⟨oI, hoI⟩ : ∃ f : Nat → Nat, f = fun q => (ga ρ 16 q).toNatClampNeg := ⟨_, rfl⟩
  obtain ⟨oD, hoD⟩ : ∃ f : Nat → Bool, f = fun q => decide (¬ ga ρ 17 q = 0) := ⟨_, rfl⟩
  obtain ⟨D, hDd⟩ : ∃ b : Bool, b = decide (¬ gi ρ 9 = 0) := ⟨_, rfl⟩
  have oM : ∀ q, q < no → oI q < ni ∧ ga ρ 16 q = nI (oI q) ∧ (ga ρ 17 q = 0 ↔ ¬ oD q = true) := by
    intro q hq
    obtain ⟨j, j1, j2, j3, j4, j5⟩ := o3 q hq
    have e : oI q = j := by rw [hoI]; show (ga ρ 16 q).toNatClampNeg = j; rw [j3, nI_clamp (by omega)]
    rw [e]
    refine ⟨j1, j3, ?_⟩
    rw [hoD]
    simp
  have oX : ∀ q, q < no → oI q < ni ∧ ga σ 18 q = nI (oI q) ∧ (ga σ 19 q = 0 ↔ ¬ oD q = true) := by
    intro q hq
    obtain ⟨j, j1, j2, j3, j4, j5⟩ := o3 q hq
    obtain ⟨z1, z2, z3⟩ := oM q hq
    refine ⟨z1, ?_, by rw [j4]; exact z3⟩
    rw [j2, ← j3, z2]
  have hDx : gi σ 9 = 0 ↔ D = false := by rw [b7, hDd]; simp
  obtain ⟨L, hL⟩ : ∃ L : List Nat, L = srt (fun a b => bfB (vM ρ) oI oD a b no 0) (kf D (vM ρ) ni k) := ⟨_, rfl⟩
  obtain ⟨c, hc⟩ : ∃ c, c = (kf D (vM ρ) ni k).length := ⟨_, rfl⟩
  have c200 : c ≤ 200 := by have := kf_len (D := D) (V := vM ρ) (ni := ni) k; omega
  have Ll : L.length = c := by rw [hL, srt_len, hc]
  -- the class
  obtain ⟨f', x1, x2⟩ := x_finish N (by omega) (V := vM ρ) (ni := ni) (no := no) (k := k) (kp := kp) (sk := sk) (oI := oI) (oD := oD) (D := D) (σ := si σ 12 (nI ni)) cx i6 o4 a1 rfl a2 o1 oX hDx b1 b2 b3 b5 k 0 N (ga σ 21) (by omega) (by omega) trivial
  rw [← hL] at x2
  rw [← hc] at x1
  have x0 : f_A_finish N σ = some ((), si (si (sa (si σ 12 (nI ni)) 21 f') 15 (nI (min sk c))) 13 (nI (min kp (c - min sk c)))) := by
    unfold f_A_finish
    rw [nm_eq, d.2.2.2.2.1.2.1]
    have : sa (si σ 12 (nI ni)) 21 (ga σ 21) = si σ 12 (nI ni) := sa_self
    rw [this] at x1
    exact x1
  -- the reference: left out
  have lo : ∃ ρ1, f_M_run_301 N ρ = f_M_run_329 N ρ1 ∧ (∀ r, r ≠ 12 → gi ρ1 r = gi ρ r) ∧ (∀ r, r ≠ 18 → ga ρ1 r = ga ρ r) ∧ (∀ r, r ≠ 2 → gb ρ1 r = gb ρ r) ∧ gi ρ1 12 = nI c ∧ FwP (McR (vM ρ) ni ρ1) 0 (kf D (vM ρ) ni k) := by
    unfold f_M_run_301
    rw [if_pos hw]
    by_cases z : gi ρ 9 = 0
    · have dF : D = false := by rw [hDd]; simp [z]
      rw [if_pos z]
      obtain ⟨q1, q2⟩ := kf_no (V := vM ρ) (ni := ni) (Q := McR (vM ρ) ni ρ) (k := k) mr k (Nat.le_refl _)
      refine ⟨ρ, rfl, fun _ _ => rfl, fun _ _ => rfl, fun _ _ => rfl, ?_, ?_⟩
      · rw [a3, hc, dF, q2]
      · rw [dF]; exact q1
    · have dT : D = true := by rw [hDd]; simp [z]
      rw [if_neg z]
      obtain ⟨ρ1, q1, q2, q3⟩ := m_leave N hN (V := vM ρ) i6 a1 d.2.2.2.2.1.2.2.1 a3 mr
      rw [q1, bd_eq]
      refine ⟨_, rfl, fun r hr => by rw [gi_si, if_neg hr]; exact q2.1 r, q2.2.1, q2.2.2, ?_, ?_⟩
      · rw [hc, dT]; rfl
      · rw [dT]; exact q3
  obtain ⟨ρ1, l1, l2, l3, l4, l5, l6⟩ := lo
  -- sorted
  have e1 : ga ρ1 16 = ga ρ 16 := l3 _ (by decide)
  have e2 : ga ρ1 17 = ga ρ 17 := l3 _ (by decide)
  obtain ⟨ρ2, s1, s2, s3⟩ := m_sort N hN (V := vM ρ) (oI := oI) (oD := oD) (ρ := ρ1) (l := kf D (vM ρ) ni k) i6 o4 ((l2 _ (by decide)).trans d.2.2.2.2.1.2.2.1) ((l2 _ (by decide)).trans o2) (fun q hq => by rw [e1, e2]; exact oM q hq) (by rw [← hc]; exact c200) (by rw [← hc]; exact l5) l6
  rw [← hL] at s3
  obtain ⟨P, hP⟩ : ∃ P : Nat → Nat, P = fun j => (L[L.length - 1 - j]?).getD 0 := ⟨_, rfl⟩
  have PX : ∀ j, j < c → f' j = nI (P j) ∧ P j < k := by
    intro j hj
    obtain ⟨x, q1, q2⟩ := SkP.get (j := j) x2 (by omega)
    have : P j = x := by rw [hP]; show (L[L.length - 1 - j]?).getD 0 = x; rw [q1]; rfl
    rw [this]
    rw [Nat.zero_add] at q2
    refine ⟨q2, ?_⟩
    have := List.mem_of_getElem? q1
    rw [hL] at this
    exact kf_mem (srt_mem this)
  have PM : ∀ j, j < c → McR (vM ρ) ni ρ2 j (P j) := by
    intro j hj
    obtain ⟨x, q1, q2⟩ := SkP.get (j := j) s3 (by omega)
    have : P j = x := by rw [hP]; show (L[L.length - 1 - j]?).getD 0 = x; rw [q1]; rfl
    rw [this]
    rw [Nat.zero_add] at q2
    exact q2
  -- cut
  have g2 : ∀ r, r ≠ 12 → gi ρ2 r = gi ρ r := fun r hr => (s2.1 r).trans (l2 r hr)
  obtain ⟨ρ3, t1, t2, t3⟩ := m_cutl N hN (V := vM ρ) (ρ := ρ2) P i6 ((g2 _ (by decide)).trans d.2.2.2.2.1.2.2.1) b1 b2 c200 ((g2 _ (by decide)).trans b4) ((g2 _ (by decide)).trans b6) ((s2.1 _).trans l5) PM
  obtain ⟨sh, hsh⟩ : ∃ sh, sh = min kp (c - min sk c) := ⟨_, rfl⟩
  obtain ⟨stt, hst⟩ : ∃ stt, stt = min sk c := ⟨_, rfl⟩
  have shle : stt + sh ≤ c := by omega
  rw [← hsh, ← hst] at x0
  rw [← hsh] at t1 t3
  rw [← hst] at t3
  have it3 : gi ρ3 7 = nI ni := (t2.1 _).trans ((g2 _ (by decide)).trans d.2.2.2.2.1.2.2.1)
  refine ⟨_, si (si ρ3 12 (nI sh)) 13 (nI ni), x0, ?_, ?_, ?_, ?_, ?_⟩
  · rw [l1]
    unfold f_M_run_329
    rw [s1, bd_eq, t1, bd_eq, nm_eq, show gi (si ρ3 12 (nI sh)) 7 = nI ni from it3]
    rfl
  · refine ⟨sh, ni, stt, i6, by omega, rfl, rfl, rfl, rfl, rfl, fun r i hr hi => ?_⟩
    obtain ⟨q1, q2⟩ := PX (stt + r) (by omega)
    have q3 := t3 r hr i hi
    obtain ⟨⟨nb, n1, n2, n3⟩, n4⟩ := cx (P (stt + r)) q2
    have nb64 : nb < 64 := Nat.lt_of_lt_of_le n1 (Nat.pow_le_pow_right (n := 2) (by decide) i6)
    have bt := bits6 nb nb64 i (by omega)
    refine ⟨P (stt + r), by omega, ?_, ?_⟩
    · show ga (sa (si σ 12 (nI ni)) 21 f') 21 (stt + r) = _
      rw [ga_sa, if_pos rfl]
      exact q1
    · have bx : ((ga σ 20 (P (stt + r)) >>> (nI i &&& 31)) &&& 1 = 0) ↔ ¬ vM ρ (P (stt + r)) i = none := by
        rw [n2, bt, ← n3 i hi]
        cases nb.testBit i <;> simp
      have nx := n4 i hi
      rcases q3 with ⟨u1, u2⟩ | ⟨u1, u2⟩
      · right
        refine ⟨?_, ?_, ?_⟩
        · show ¬ ga ρ3 18 (6 * r + i) = 0
          rw [u2]; decide
        · exact fun z => bx.mp z u1
        · show gb σ 2 (6 * P (stt + r) + i) = 0
          rw [nx, u1]; rfl
      · left
        refine ⟨u2, bx.mpr (by rw [u1]; simp), ?_⟩
        show gb σ 2 (6 * P (stt + r) + i) = gb ρ3 2 (6 * r + i)
        rw [nx, u1]; rfl
  · refine ⟨fun r q => ?_, fun r q => ?_, fun r q => rfl⟩
    · rw [gi_si, if_neg (fun z => absurd q (by rw [z]; decide)), gi_si, if_neg (fun z => absurd q (by rw [z]; decide)), gi_sa, gi_si, if_neg (fun z => absurd q (by rw [z]; decide))]
    · rw [ga_si, ga_si, ga_sa, if_neg (fun z => absurd q (by rw [z]; decide)), ga_si]
  · refine ⟨fun r q => ?_, fun r q => ?_, fun r q => ?_⟩
    · rw [gi_si, if_neg (fun z => absurd q (by rw [z]; decide)), gi_si, if_neg (fun z => absurd q (by rw [z]; decide)), t2.1 r, g2 r (fun z => absurd q (by rw [z]; decide))]
    · rw [ga_si, ga_si, t2.2.1 r (fun z => absurd q (by rw [z]; decide)), s2.2.1 r (fun z => absurd q (by rw [z]; decide)), l3 r (fun z => absurd q (by rw [z]; decide))]
    · rw [gb_si, gb_si, t2.2.2 r (fun z => absurd q (by rw [z]; decide)), s2.2.2 r (fun z => absurd q (by rw [z]; decide)), l4 r (fun z => absurd q (by rw [z]; decide))]
  · rfl

