/-! an expression is worked out, on both sides (own rows) -/
theorem tall_bits {P Q : Nat → Prop} : ∀ {t : Tr}, twf t → (∀ b, (tcb t).testBit b = true → P b) → (∀ s, (tab t).testBit s = true → Q s) → tall P Q t
  | .num _, _, _, _ => trivial
  | .var b, _, h, _ => h b (by simp [tcb, Nat.testBit_two_pow])
  | .mulL c a, w, h, g => ⟨g (c % 8) (by simp [tab, Nat.testBit_two_pow]), tall_bits w.2.2.2.2 h (fun s z => by rw [w.2.2.2.1] at z; simp at z)⟩
  | .mulR a k, w, h, g => tall_bits (t := a) w.2 h g
  | .add (.mulL k a) b, w, h, g => ⟨tall_bits w.2.2.2.1 (fun q z => h q (by simp only [tcb, Nat.testBit_or, z, Bool.true_or])) (fun q z => g q (by simp only [tab, Nat.testBit_or, z, Bool.true_or])), tall_bits w.2.2.2.2 (fun q z => h q (by simp only [tcb, Nat.testBit_or, z, Bool.or_true])) (fun q z => g q (by simp only [tab, Nat.testBit_or, z, Bool.or_true]))⟩
def Wk (ρ' : St) (r : Rs) : Prop := match r with
  | .ok v => gi ρ' 14 = 0 ∧ Gv ρ' 0 v
  | .error er => gi ρ' 14 = er
theorem top_M (N : Nat) (hN : 200 < N) {σ ρ0 : St} {n m e : Nat} {τ : Nat → Tr} (hE : IvE σ ρ0 n m τ) {P Q : Nat → Prop} {L : Tr → Option (Option Int64)} {C A : Nat → Option Int64} (hL : ∀ ρ, MF ρ0 ρ → HL N ρ n τ L) (oL : ∀ t v, L t = some v → ¬ tru t ∧ ∀ z, v = some z → okF z)
    (hC : ∀ b e, P b → e < n → τ e = .var b → ∀ ρ p, MF ρ0 ρ → p < 64 → gi ρ 20 = nI p → ∃ x fl, f_M_giveColumn N ρ (nI e) = some ((), gvs ρ p x fl) ∧ ((C b = none ∧ fl = 1) ∨ (C b = some x ∧ fl = 0)))
    (hA : ∀ c a e, Q (c % 8) → e < n → τ e = .mulL c a → ∀ ρ p, MF ρ0 ρ → p < 64 → gi ρ 20 = nI p → ∃ x fl, f_M_giveAggregate N ρ (nI e) = some ((), gvs ρ p x fl) ∧ ((A (c % 8) = none ∧ fl = 1) ∨ (A (c % 8) = some x ∧ fl = 0)))
    (bC : ∀ b, P b → ∀ z, C b = some z → okF z) (bA : ∀ s, Q s → ∀ z, A s = some z → okF z) (he : e < n) (hP : tall P Q (τ e)) (hw : gi ρ0 14 = 0) :
    ∃ ρ', f_M_workOut N ρ0 (nI e) = some ((), ρ') ∧ MF ρ0 ρ' ∧ Wk ρ' (sem L C A (τ e)) := by
  have s60 := (hE.2.2.2.2.2.2.1 e he).2.2.2.1
  obtain ⟨ρ1, hρ1⟩ : ∃ ρ1, ρ1 = phs (si (si ρ0 19 0) 20 0) 0 (nI e) := ⟨_, rfl⟩
  have mf1 : MF ρ0 ρ1 := by rw [hρ1]; exact (mf_open.trans mf_top).trans mf_phs
  have e0 : f_M_workOut N ρ0 (nI e) = f_M_workOut_15 N N ρ1 := by
    unfold f_M_workOut
    rw [nm_eq, nm_eq, m_push (k := 0) (by decide) (show gi (si (si ρ0 19 0) 20 0) 19 = nI 0 from rfl), bd_eq, hρ1]
  obtain ⟨s, hs, ρ', a1, a2, a3⟩ := ev_M N hE hL oL hC hA bC bA (τ e) e 0 0 ρ1 he rfl hP mf1 (by rw [hρ1]; rfl) (by rw [hρ1]; exact updn (n := 0) (f := ga ρ0 24) (by decide)) (by rw [hρ1]; unfold phs; rw [ga_si, ga_wa, if_pos rfl]; exact updn (n := 0) (by decide)) (by rw [hρ1]; rfl) (by rw [hρ1]; exact hw) (by omega) (by omega)
  refine ⟨ρ', ?_, mf1.trans a1, ?_⟩
  · rw [e0]
    obtain ⟨fu, hfu⟩ : ∃ fu, N = s + (fu + 1) := ⟨N - s - 1, by omega⟩
    have key : f_M_workOut_15 N (s + (fu + 1)) ρ1 = some ((), ρ') := by
      cases q : sem L C A (τ e) with
      | error er =>
        rw [q] at a3
        exact a3.1 (fu + 1) (by omega)
      | ok v =>
        rw [q] at a3
        obtain ⟨b1, b2, b3, b4, b5⟩ := a3
        rw [b1]
        show f_M_workOut_15_b N (f_M_workOut_15 N fu) ρ' = _
        unfold f_M_workOut_15_b
        rw [b2, if_pos (show nI 0 ≤ 0 by decide)]
    rw [← hfu] at key
    exact key
  · cases q : sem L C A (τ e) with
    | error er => rw [q] at a3; exact a3.2
    | ok v => rw [q] at a3; exact ⟨a3.2.2.2.1, a3.2.2.2.2⟩
theorem m_true (N : Nat) {ρ0 ρ' : St} {e : Nat} {r : Rs} (h : f_M_workOut N ρ0 (nI e) = some ((), ρ')) (hw : Wk ρ' r) (hr : (∃ er, r = .error er ∧ (er = -20 ∨ er = -21)) ∨ r = .ok (some 0) ∨ r = .ok (some 1) ∨ r = .ok (some 2)) : ∃ b, f_M_isTrue N ρ0 (nI e) = some (b, ρ') ∧ (b = 0 ∨ b = 1) ∧ (b = 1 ↔ r = .ok (some 1)) := by
  unfold f_M_isTrue
  rw [h, bd_eq]
  have z0 : ((0 : Int32)).toNatClampNeg = 0 := by decide
  rcases hr with ⟨er, rfl, he⟩ | rfl | rfl | rfl
  · have hw : gi ρ' 14 = er := hw
    rw [if_neg (show ¬ gi ρ' 14 = 0 by rw [hw]; rcases he with rfl | rfl <;> decide)]
    exact ⟨0, rfl, Or.inl rfl, fun z => absurd z (by decide), fun z => (by cases z)⟩
  · rw [if_pos hw.1, show ckb (0 : Int32) 64 (if lg_cmp (gb ρ' 6 ((0 : Int32)).toNatClampNeg) 1 = 0 then some ((1 : Int32), ρ') else some (0, ρ')) = (if lg_cmp (gb ρ' 6 ((0 : Int32)).toNatClampNeg) 1 = 0 then some ((1 : Int32), ρ') else some (0, ρ')) from ckb_nI (j := 0) (by decide) (by decide), z0, hw.2.2]
    exact ⟨0, rfl, Or.inl rfl, fun z => absurd z (by decide), fun z => absurd z (by simp)⟩
  · rw [if_pos hw.1, show ckb (0 : Int32) 64 (if lg_cmp (gb ρ' 6 ((0 : Int32)).toNatClampNeg) 1 = 0 then some ((1 : Int32), ρ') else some (0, ρ')) = (if lg_cmp (gb ρ' 6 ((0 : Int32)).toNatClampNeg) 1 = 0 then some ((1 : Int32), ρ') else some (0, ρ')) from ckb_nI (j := 0) (by decide) (by decide), z0, hw.2.2]
    exact ⟨1, rfl, Or.inr rfl, fun z => rfl, fun z => rfl⟩
  · rw [if_pos hw.1, show ckb (0 : Int32) 64 (if lg_cmp (gb ρ' 6 ((0 : Int32)).toNatClampNeg) 1 = 0 then some ((1 : Int32), ρ') else some (0, ρ')) = (if lg_cmp (gb ρ' 6 ((0 : Int32)).toNatClampNeg) 1 = 0 then some ((1 : Int32), ρ') else some (0, ρ')) from ckb_nI (j := 0) (by decide) (by decide), z0, hw.2.2]
    exact ⟨0, rfl, Or.inl rfl, fun z => absurd z (by decide), fun z => absurd z (by simp)⟩
theorem colv_mf {ρ0 ρ : St} (h : MF ρ0 ρ) : colv ρ = colv ρ0 := by
  have e1 : ga ρ 19 = ga ρ0 19 := h.2.1 _ (by decide) (by decide) (by decide)
  have e2 : ga ρ 11 = ga ρ0 11 := h.2.1 _ (by decide) (by decide) (by decide)
  have e3 : ga ρ 2 = ga ρ0 2 := h.2.1 _ (by decide) (by decide) (by decide)
  have e4 : gb ρ 0 = gb ρ0 0 := h.2.2 _ (by decide)
  funext b
  unfold colv cix rwn tb
  rw [e1, e2, e3, e4]
theorem Rw_mf {σ ρ0 ρ : St} {h : Nat → Nat} {lv : Nat} (mf : MF ρ0 ρ) (r : Rw σ ρ0 h lv) : Rw σ ρ h lv := by
  have e1 : ga ρ 19 = ga ρ0 19 := mf.2.1 _ (by decide) (by decide) (by decide)
  have e2 : ga ρ 11 = ga ρ0 11 := mf.2.1 _ (by decide) (by decide) (by decide)
  unfold Rw tb
  rw [e1, e2]
  exact r
theorem Pc_mf {ρ0 ρ : St} {w : Nat → Nat} {lv b : Nat} (mf : MF ρ0 ρ) (r : Pc ρ0 w lv b) : Pc ρ w lv b := by
  have e2 : ga ρ 11 = ga ρ0 11 := mf.2.1 _ (by decide) (by decide) (by decide)
  unfold Pc tb
  rw [e2]
  exact r
/-- no group is looked at -/
theorem hL_no {N : Nat} {ρ0 : St} {n : Nat} {τ : Nat → Tr} (h : gi ρ0 18 = -1) : ∀ ρ, MF ρ0 ρ → HL N ρ n τ nL := by
  intro ρ mf e he
  left
  rw [mf.1 18 (by decide) (by decide) (by decide), h]
  exact ⟨by decide, rfl⟩
/-- all of the data -/
def Dat (σ ρ : St) (nt n m ns ng ni no : Nat) (w h : Nat → Nat) (τ : Nat → Tr) : Prop := IvT σ ρ nt w h ∧ IvE σ ρ n m τ ∧ IvQ σ ρ nt n τ ns ng ni no
theorem Dat.same {σ ρ σ' ρ' : St} {nt n m ns ng ni no : Nat} {w h : Nat → Nat} {τ : Nat → Tr} (d : Dat σ ρ nt n m ns ng ni no w h τ) (hx : SX σ σ') (hm : SM ρ ρ') : Dat σ' ρ' nt n m ns ng ni no w h τ := ⟨ivT_same hx hm d.1, ivE_same hx hm d.2.1, ivQ_same hx hm d.2.2⟩
/-- an expression without aggregates, at rows: on both sides -/
theorem ev_row (N : Nat) (hN : 200 < N) (g : Bool) {σ ρ : St} {nt n m ns ng ni no lv e : Nat} {w h : Nat → Nat} {τ : Nat → Tr} (d : Dat σ ρ nt n m ns ng ni no w h τ) (hR : Rw σ ρ h lv) (hlv : lv ≤ ns) (he : e < n) (hc : ∀ b, (tcb (τ e)).testBit b = true → Pc ρ w lv b) (ha : tab (τ e) = 0) (hg : gi ρ 18 = -1) (hw : gi ρ 14 = 0) :
    ∃ r, r = sem nL (colv ρ) (fun _ => none) (τ e) ∧ Rok (τ e) r ∧ (¬ tru (τ e) → ∃ l', f_ev N g 130 0 σ (nI e) 0 = some (vc r, wL σ l') ∧ (∀ v, r = .ok (some v) → l' 0 = v) ∧ (r = .ok none → l' 0 = 0)) ∧ (tru (τ e) → ∃ l', f_ev N g 130 1 σ (nI e) 0 = some (tc r, wL σ l')) ∧
      ∃ ρ', f_M_workOut N ρ (nI e) = some ((), ρ') ∧ MF ρ ρ' ∧ Wk ρ' r := by
  obtain ⟨hT, hE, hQ⟩ := id d
  have hp := hE.2.2.2.2.2.2.1 e he
  have ta : tall (Pc ρ w lv) (fun _ => False) (τ e) := tall_bits hp.2.2.1 hc (fun s z => by rw [ha] at z; simp at z)
  have bC : ∀ b, Pc ρ w lv b → ∀ z, colv ρ b = some z → okF z := fun b hb => b_col hT hQ hR hlv hb
  have bA : ∀ s : Nat, False → ∀ z, (fun _ => none : Nat → Option Int64) s = some z → okF z := fun _ z => z.elim
  refine ⟨_, rfl, sem_ok (fun t v q => by cases q) bC bA _ hp.2.2.1 ta, ?_, ?_, ?_⟩
  · intro nt'
    have := (ev_X N g hE (P := Pc ρ w lv) (Q := fun _ => False) (C := colv ρ) (A := fun _ => none) (fun b hb h12 l => x_col N hT hQ hR hlv h12 hb l) (fun s z => z.elim) bC bA (τ e) e 0 130 he rfl ta (by have := hp.2.2.2.1; omega) (by have := hp.2.2.2.1; omega)).1 nt' (gl σ)
    obtain ⟨l', y1, y2, y3⟩ := this
    exact ⟨l', y1, y2, fun q => y3 q ha⟩
  · intro yt
    have := (ev_X N g hE (P := Pc ρ w lv) (Q := fun _ => False) (C := colv ρ) (A := fun _ => none) (fun b hb h12 l => x_col N hT hQ hR hlv h12 hb l) (fun s z => z.elim) bC bA (τ e) e 0 130 he rfl ta (by have := hp.2.2.2.1; omega) (by have := hp.2.2.2.1; omega)).2 yt (gl σ)
    exact this
  · refine top_M N hN hE (hL_no hg) (fun t v q => by cases q) ?_ (fun c a e z => z.elim) bC bA he ta hw
    intro b e' hb he' ht ρ' p mf hp' htp
    have d' := d.same SX.rfl mf.sm
    rw [← colv_mf mf]
    exact m_col N d'.1 d'.2.1 d'.2.2 (Rw_mf mf hR) hlv (Pc_mf mf hb) he' ht hp' htp

