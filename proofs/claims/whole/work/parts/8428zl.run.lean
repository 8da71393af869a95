/-! run (own rows) -/
theorem sx_clear {σ : St} : SX σ (si (si (si (si σ 12 0) 13 0) 14 0) 15 0) := ⟨fun r q => by rw [gi_si, if_neg (fun z => absurd q (by rw [z]; decide)), gi_si, if_neg (fun z => absurd q (by rw [z]; decide)), gi_si, if_neg (fun z => absurd q (by rw [z]; decide)), gi_si, if_neg (fun z => absurd q (by rw [z]; decide))], fun _ _ => rfl, fun _ _ => rfl⟩
theorem ivA_no {σ ρ : St} (h : AnsE σ ρ) (ha : gi ρ 12 = 0) : IvA σ ρ := ⟨0, 0, 0, by omega, by omega, h.1, h.2.2.2, h.2.1, ha, h.2.2.1, fun r i hr => by omega⟩
theorem sm_ans {ρ : St} {x : Int32} : SM ρ (si ρ 12 x) := ⟨fun r q => by rw [gi_si, if_neg (fun z => absurd q (by rw [z]; decide))], fun _ _ => rfl, fun _ _ => rfl⟩
theorem run_fail {N : Nat} {g : Bool} {nt n m ns ng ni no : Nat} {w h : Nat → Nat} {τ : Nat → Tr} {σ ρ : St} {c : Int32} (E : Ende nt n m ns ng ni no w h τ σ ρ) (hc : ¬ c = 0) (hw : gi ρ 14 = c) :
    f_Q_run_28 N g σ c = some (c, g, σ) ∧ f_Q_run_40 N g σ c = some (c, g, σ) ∧ f_M_run_301 N ρ = some (c, si ρ 12 0) ∧ Inv g σ (si ρ 12 0) := by
  have e40 : f_Q_run_40 N g σ c = some (c, g, σ) := by unfold f_Q_run_40; rw [if_neg hc]
  refine ⟨?_, e40, ?_, nt, n, m, ns, ng, ni, no, w, h, τ, ?_⟩
  · unfold f_Q_run_28
    rw [if_neg hc, e40]
  · unfold f_M_run_301
    rw [if_neg (by rw [hw]; exact hc), nm_eq, show gi (si ρ 12 0) 14 = c from hw]
  · have d := E.1.same (SX.rfl (σ := σ)) (sm_ans (ρ := ρ) (x := 0))
    exact ⟨d.1, d.2.1, d.2.2, ivA_no ⟨E.2.2.1, E.2.2.2.1, E.2.2.2.2.1, E.2.2.2.2.2⟩ rfl, E.2.1⟩
theorem run_done {N : Nat} (hN : 500 < N) {g : Bool} {nt n m ns ng ni no a : Nat} {w h : Nat → Nat} {τ : Nat → Tr} {σ ρ : St} (E : Ende nt n m ns ng ni no w h τ σ ρ) (hA : AnsR σ ρ a ni) (hw : gi ρ 14 = 0) :
    ∃ r σ' ρ', f_Q_run_40 N g σ 0 = some (r, g, σ') ∧ f_M_run_301 N ρ = some (r, ρ') ∧ Inv g σ' ρ' := by
  obtain ⟨σ', ρ', z1, z2, z3, z4, z5, z6⟩ := run_end N hN E.1 hA hw
  refine ⟨gi σ' 13, σ', ρ', ?_, z2, nt, n, m, ns, ng, ni, no, w, h, τ, ?_⟩
  · unfold f_Q_run_40
    rw [if_pos rfl, z1, bd_eq]
  · have d := E.1.same z4 z5
    exact ⟨d.1, d.2.1, d.2.2, z3, fun i hi => by rw [z6]; exact E.2.1 i hi⟩
theorem mGo_stop {N : Nat} {ρ ρ' : St} (h1 : f_M_goFirst N (si (si (si ρ 16 0) 17 0) 18 (-1)) = some ((), ρ')) (hw : ¬ gi ρ' 14 = 0) : mGo N ρ = f_M_run_301 N ρ' := by
  unfold mGo
  rw [h1, bd_eq, if_neg hw]
  split <;> rfl
/-- a run without groups -/
theorem run_u (N : Nat) (hN : 500 < N) (g : Bool) {nt n m ns ng ni no : Nat} {w h T : Nat → Nat} {τ : Nat → Tr} {σ ρ : St} (hs : 0 < ns) (J : Ju nt n m ns ng ni no w h T τ 0 σ (si (si (si ρ 16 0) 17 0) 18 (-1))) :
    ∃ r σ' ρ', (bd (f_jf N g 6 σ 0) fun r11 s12 => f_Q_run_28 N g s12 r11) = some (r, g, σ') ∧ mGo N ρ = some (r, ρ') ∧ Inv g σ' ρ' := by
  obtain ⟨c, σ1, ρ1, z1, z2, z3⟩ := j_all N (by omega) g (jh_u N (by omega) g) hs σ _ J
  rw [z1, bd_eq]
  rcases z3 with ⟨y1, k, y2, ⟨b, u1, u2, u3, a, u4⟩, y4⟩ | ⟨y1, y2, E⟩
  · have E : Ende nt n m ns ng ni no w h τ σ1 ρ1 := ⟨b.1, b.2.2.2.2.2.2.1, b.2.2.2.2.2.2.2⟩
    obtain ⟨r, σ', ρ', w1, w2, w3⟩ := run_done (g := g) (by omega) E u4 b.2.1
    refine ⟨r, σ', ρ', ?_, ?_, w3⟩
    · unfold f_Q_run_28 f_R_giveGroups
      rw [if_pos y1, if_pos u1, if_pos u1]
      have : (if g = true then some ((0 : Int32), σ1) else some (0, σ1)) = some (0, σ1) := by split <;> rfl
      rw [this, bd_eq]
      exact w1
    · unfold mGo
      rw [z2, bd_eq, if_pos u2]
      exact w2
  · obtain ⟨w1, w2, w3, w4⟩ := run_fail (N := N) (g := g) E y1 y2
    exact ⟨c, σ1, _, w1, by rw [mGo_stop z2 (by rw [y2]; exact y1)]; exact w3, w4⟩
/-- a run with groups -/
theorem run_g (N : Nat) (hN : 1100 < N) {nt n m ns ng ni no U : Nat} {w h T : Nat → Nat} {τ : Nat → Tr} {K : Nat → Nat} {D : Nat → Bool} {CP : (Nat → Int32) → Nat → Option Int64} {gT : Nat → Nat} {σ ρ : St} (hs : 0 < ns) (J : Jg nt n m ns ng ni no U w h T τ K D CP gT 0 σ (si (si (si ρ 16 0) 17 0) 18 (-1))) :
    ∃ r σ' ρ', (bd (f_jf N true 6 σ 0) fun r11 s12 => f_Q_run_28 N true s12 r11) = some (r, true, σ') ∧ mGo N ρ = some (r, ρ') ∧ Inv true σ' ρ' := by
  obtain ⟨c, σ1, ρ1, z1, z2, z3⟩ := j_all N (by omega) true (jh_g N hN) hs σ _ J
  rw [z1, bd_eq]
  rcases z3 with ⟨y1, k, y2, ⟨j, A1, A2, GX, GM, gr, ky, arg, pos, F⟩, y4⟩ | ⟨y1, y2, E⟩
  · obtain ⟨b, j2, j3, j4, j5, j6, j7, j8, j9, j10⟩ := id j
    have g4 := b.1.2.2.2.1.1
    obtain ⟨ρ2, p1, p2, gd⟩ := gd_of N y2 g4 b.1.2.2.2.1.2.2.1 F
    have sm2 : SM ρ1 ρ2 := by
      rcases p2 with z | z
      · rw [z]; exact SM.rfl
      · rw [z]; exact ⟨fun r q => by rw [gi_si, if_neg (fun z => absurd q (by rw [z]; decide))], fun _ _ => rfl, fun _ _ => rfl⟩
    have e2 : ∀ r, r ≠ 17 → gi ρ2 r = gi ρ1 r := fun r hr => by
      rcases p2 with z | z
      · rw [z]
      · rw [z, gi_si, if_neg hr]
    have st : St1 n m ns ng ni U w T τ K D CP gT σ1 ρ1 := ⟨b.2.2.2.1, b.2.2.2.2.1, b.2.2.2.2.2.1, j4, j6, j10, j8, j9⟩
    have I : Ig nt n m ns ng ni no U k GX w h T τ K D CP gT gr ky arg pos σ1 ρ2 := ⟨b.1.same SX.rfl sm2, (e2 _ (by decide)).trans b.2.1, st.same SX.rfl sm2, gd, b.2.2.2.2.2.2.1, b.2.2.2.2.2.2.2.1, b.2.2.2.2.2.2.2.2.1, b.2.2.2.2.2.2.2.2.2.1, (e2 _ (by decide)).trans b.2.2.2.2.2.2.2.2.2.2⟩
    have A0 : AnsR σ1 ρ2 0 ni := ⟨by omega, A1, (e2 _ (by decide)).trans A2, fun r hr => by omega⟩
    obtain ⟨cc, σ3, ρ3, q1, q2, E, q3⟩ := gg_loop N (by omega) GX 0 N N σ1 ρ2 0 I A0 (by omega) (by have := gd.2.2.1; omega) (by have := gd.2.2.1; omega)
    have ex : f_Q_run_28 N true σ1 c = f_Q_run_40 N true σ3 cc := by
      unfold f_Q_run_28 f_R_giveGroups
      rw [if_pos y1, if_pos rfl, if_neg (show ¬ gi σ1 16 = 0 by rw [j2]; decide), show f_R_giveGroups_23 N true N σ1 0 = _ from q1, bd_eq]
    have em : mGo N ρ = f_M_run_301 N ρ3 := by
      unfold mGo
      rw [z2, bd_eq, if_neg (show ¬ gi ρ1 15 = 0 by rw [j3]; decide), if_pos b.2.1, p1, show f_M_goThroughGroups_21 N N ρ2 0 = _ from q2, bd_eq]
    rw [ex, em]
    rcases q3 with ⟨u1, u2, a, u3⟩ | ⟨u1, u2⟩
    · rw [u1]
      exact run_done (by omega) E u3 u2
    · obtain ⟨w1, w2, w3, w4⟩ := run_fail (N := N) (g := true) E u1 u2
      exact ⟨cc, σ3, _, w2, w3, w4⟩
  · obtain ⟨w1, w2, w3, w4⟩ := run_fail (N := N) (g := true) E y1 y2
    exact ⟨c, σ1, _, w1, by rw [mGo_stop z2 (by rw [y2]; exact y1)]; exact w3, w4⟩

