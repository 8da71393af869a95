/-! going through the rows of the sources, in step (own rows) -/
/-- a step's end: both go on, or both stop with the same fault -/
def Stp2 (J : Nat → St → St → Prop) (E : St → St → Prop) (h : Nat → Nat) (lv B : Nat) (oX : Option (Int32 × St)) (oM : Option (Unit × St)) : Prop :=
  ∃ c σ' ρ', oX = some (c, σ') ∧ oM = some ((), ρ') ∧ ((c = 0 ∧ ∃ k, k ≤ B ∧ J k σ' ρ' ∧ Rw σ' ρ' h lv) ∨ (¬ c = 0 ∧ gi ρ' 14 = c ∧ E σ' ρ'))
/-- what going through rows needs of the relation that it keeps -/
def JH (N : Nat) (g : Bool) (nt n m ns ng ni no : Nat) (w h T : Nat → Nat) (τ : Nat → Tr) (J : Nat → St → St → Prop) (E : St → St → Prop) : Prop :=
  (∀ k σ ρ, J k σ ρ → Dat σ ρ nt n m ns ng ni no w h τ ∧ gi ρ 14 = 0 ∧ gi ρ 18 = -1 ∧ ColsOk σ ρ w τ ns ng ni ∧ AggOk σ τ ns ng ∧ ∀ k, k < ns → tb ρ k = T k) ∧
  (∀ k σ ρ ρ' l, J k σ ρ → MF ρ ρ' → gi ρ' 14 = 0 → J k (wL σ l) ρ') ∧
  (∀ k σ ρ ρ' l, J k σ ρ → MF ρ ρ' → E (wL σ l) ρ') ∧
  (∀ c σ ρ k v, k < 3 → (v = -1 ∨ ∃ r, r < 8 ∧ v = nI r) → J c σ ρ → J c (wa σ 23 (nI k) v) (wa ρ 19 (nI k) v)) ∧
  (∀ k σ ρ, J k σ ρ → k < 512 → Rw σ ρ h ns → Stp2 J E h ns (k + 1) (f_R_takeRow N g σ) (f_M_goTogether N ρ)) ∧
  (∀ σ ρ, E σ ρ → Dat σ ρ nt n m ns ng ni no w h τ)
theorem Stp2.mono {J : Nat → St → St → Prop} {E : St → St → Prop} {h : Nat → Nat} {lv B B' : Nat} {oX : Option (Int32 × St)} {oM : Option (Unit × St)} (hB : B ≤ B') (s : Stp2 J E h lv B oX oM) : Stp2 J E h lv B' oX oM := by
  obtain ⟨c, σ', ρ', z1, z2, z3⟩ := s
  refine ⟨c, σ', ρ', z1, z2, ?_⟩
  rcases z3 with ⟨y1, k, y2, y3⟩ | y
  · exact Or.inl ⟨y1, k, Nat.le_trans y2 hB, y3⟩
  · exact Or.inr y
theorem Rw.le {σ ρ : St} {h : Nat → Nat} {a b : Nat} (hr : Rw σ ρ h b) (hab : a ≤ b) : Rw σ ρ h a := fun k hk => hr k (by omega)
theorem Rw.mf {σ ρ ρ' : St} {h : Nat → Nat} {lv : Nat} {l : Nat → Int64} (hr : Rw σ ρ h lv) (mf : MF ρ ρ') : Rw (wL σ l) ρ' h lv := Rw_mf (σ := wL σ l) mf hr
theorem Rw.set {σ ρ : St} {h : Nat → Nat} {k : Nat} {v : Int32} (hk : k < 3) (hr : Rw σ ρ h k) (hv : v = -1 ∨ ∃ r, r < h (tb ρ k) ∧ v = nI r) : Rw (wa σ 23 (nI k) v) (wa ρ 19 (nI k) v) h (k + 1) := by
  intro i hi
  have e1 : ga (wa σ 23 (nI k) v) 23 i = if i = k then v else ga σ 23 i := by rw [ga_wa, if_pos rfl, nI_clamp (by omega), upd_at]
  have e2 : ga (wa ρ 19 (nI k) v) 19 i = if i = k then v else ga ρ 19 i := by rw [ga_wa, if_pos rfl, nI_clamp (by omega), upd_at]
  have e3 : tb (wa ρ 19 (nI k) v) i = tb ρ i := rfl
  rw [e1, e2, e3]
  by_cases c : i = k
  · rw [if_pos c, if_pos c, c]; exact ⟨rfl, hv⟩
  · rw [if_neg c, if_neg c]; exact hr i (by omega)
/-- the truth of a condition at rows -/
theorem ev_cond (N : Nat) (hN : 200 < N) (g : Bool) {σ ρ : St} {nt n m ns ng ni no lv e : Nat} {w h : Nat → Nat} {τ : Nat → Tr} (d : Dat σ ρ nt n m ns ng ni no w h τ) (hR : Rw σ ρ h lv) (hlv : lv ≤ ns) (he : e < n) (tr : tru (τ e)) (hc : CKo ρ w (oo τ (nI e)) lv) (ha : os tab (oo τ (nI e)) = 0) (hg : gi ρ 18 = -1) (hw : gi ρ 14 = 0) :
    ∃ (t : Int32) (l : Nat → Int64) (b : Int32) (ρ' : St), f_ev N g 130 1 σ (nI e) 0 = some (t, wL σ l) ∧ f_M_isTrue N ρ (nI e) = some (b, ρ') ∧ MF ρ ρ' ∧ ((t < 0 ∧ ¬ t = 0 ∧ gi ρ' 14 = t ∧ b = 0) ∨ (0 ≤ t ∧ gi ρ' 14 = 0 ∧ (b = 0 ∨ b = 1) ∧ (t = 1 ↔ b = 1))) := by
  have n60 := d.2.1.1
  rw [oo_j (by omega)] at hc ha
  obtain ⟨r, -, ok, -, hx, ρ', m1, m2, m3⟩ := ev_row N hN g d hR hlv he hc ha hg hw
  obtain ⟨l, x1⟩ := hx tr
  have cs := tc_cases tr ok
  obtain ⟨b, b1, b2, b3⟩ := m_true N m1 m3 cs
  refine ⟨tc r, l, b, ρ', x1, b1, m2, ?_⟩
  rcases cs with ⟨er, rfl, he⟩ | rfl | rfl | rfl
  · left
    refine ⟨(err_neg he).2, ?_, m3, ?_⟩
    · rcases he with rfl | rfl <;> decide
    · rcases b2 with z | z
      · exact z
      · have := b3.mp z; cases this
  · exact Or.inr ⟨by decide, m3.1, b2, fun z => absurd z (by decide), fun z => absurd (b3.mp z) (by simp)⟩
  · exact Or.inr ⟨by decide, m3.1, b2, fun _ => b3.mpr rfl, fun _ => rfl⟩
  · exact Or.inr ⟨by decide, m3.1, b2, fun z => absurd z (by decide), fun z => absurd (b3.mp z) (by simp)⟩
theorem m_stop2 {N : Nat} {ρ : St} {nt n m ns ng ni no fu : Nat} {σ : St} {w h : Nat → Nat} {τ : Nat → Tr} (d : Dat σ ρ nt n m ns ng ni no w h τ) (hk : 2 < ns) (hf : 0 < fu) (hw : ¬ gi ρ 14 = 0) (x1 : Int32) (r : Nat) : f_M_goThird_17 N fu ρ x1 (nI r) = some ((), ρ) := by
  obtain ⟨fu, rfl⟩ : ∃ q, fu = q + 1 := ⟨fu - 1, by omega⟩
  obtain ⟨t1, t2, t3⟩ := src_t d.2.2 hk d.1.1
  have t6 := d.1.1
  have e0 : f_M_goThird_17 N (fu + 1) ρ x1 (nI r) = f_M_goThird_17_b N (f_M_goThird_17 N fu) ρ x1 (nI r) := rfl
  have e66 : f_M_goThird_66 N ρ x1 = some ((), ρ) := by
    unfold f_M_goThird_66
    by_cases c : x1 = 0
    · rw [if_pos c, show ∀ k : Option (Unit × St), ckb (2 : Int32) 3 k = k from fun k => ckb_nI (j := 2) (by decide) (by decide)]
      by_cases c2 : ga ρ 12 ((2 : Int32)).toNatClampNeg = 2
      · rw [if_pos c2, if_neg hw]
      · rw [if_neg c2]
    · rw [if_neg c]
  rw [e0]
  unfold f_M_goThird_17_b
  rw [show ∀ k : Option (Unit × St), ckb (2 : Int32) 3 k = k from fun k => ckb_nI (j := 2) (by decide) (by decide), show ((2 : Int32)).toNatClampNeg = 2 from by decide, t2, ckb_nI (show tb ρ 2 < 6 by omega) (by decide), e66, if_neg hw]
  split <;> rfl
theorem j_loop2 (N : Nat) (hN : 200 < N) (g : Bool) {nt n m ns ng ni no f : Nat} {w h T : Nat → Nat} {τ : Nat → Tr} {J : Nat → St → St → Prop} {E : St → St → Prop} (H : JH N g nt n m ns ng ni no w h T τ J E) (hk : 2 < ns)
    (IN : ∀ k σ ρ, J k σ ρ → k + 1 ≤ 512 → Rw σ ρ h (2 + 1) → Stp2 J E h (2 + 1) (k + 1) (f_jf N g f σ (nI (2 + 1))) (f_M_goTogether N ρ)) :
    ∀ (q r fu fu' k B : Nat) (σ ρ : St) (x : Int32), J k σ ρ → k + q * 1 ≤ B → (x = 0 → k + 8 * 1 ≤ B) → B ≤ 512 → Rw σ ρ h 2 → r + q = h (T 2) → q < fu → q < fu' → (x = 0 ∨ x = 1) → Stp2 J E h 2 B (f_R_joinFrom_39 N g (f_jf N g f) fu σ (nI 2) (nI (h (T 2))) x (nI r)) (f_M_goThird_17 N fu' ρ x (nI r)) := by
  obtain ⟨H1, H2, H3, H4, H5, H6⟩ := H
  intro q
  induction q with
  | zero =>
    intro r fu fu' k B σ ρ x hJ hB1 hB2 hB3 hR hr hfu hfu' hx
    obtain ⟨fu, rfl⟩ : ∃ q, fu = q + 1 := ⟨fu - 1, by omega⟩
    obtain ⟨fu', rfl⟩ : ∃ q, fu' = q + 1 := ⟨fu' - 1, by omega⟩
    obtain ⟨d, hw, -, -, -, hT⟩ := H1 k σ ρ hJ
    have ht := hT 2 hk
    obtain ⟨t1, t2, t3⟩ := src_t d.2.2 hk d.1.1
    have t6 := d.1.1
    have hh := d.1.2.2.2.1 _ t1
    obtain ⟨t, hw', s1, s2, s3, s4, s5, s6, s7, s8⟩ := d.2.2.1.2.2.2 2 hk
    have er : r = h (T 2) := by omega
    subst er
    have hh8 := hh.2.2.1
    rw [ht] at hh8
    have x0 : f_R_joinFrom_39 N g (f_jf N g f) (fu + 1) σ (nI 2) (nI (h (T 2))) x (nI (h (T 2))) = if x = 0 then (if nI hw' = 2 then bd (f_jf N g f (wa σ 23 (nI 2) (-1)) (nI (2 + 1))) (fun r s => some (r, s)) else some (0, σ)) else some (0, σ) := by
      show f_R_joinFrom_39_b N g (f_jf N g f) (f_R_joinFrom_39 N g (f_jf N g f) fu) σ (nI 2) (nI (h (T 2))) x (nI (h (T 2))) = _
      unfold f_R_joinFrom_39_b
      rw [if_pos (nI_le (Nat.le_refl _) (by omega)), ckb_nI (show 2 < 3 by decide) (by decide), nI_clamp (show 2 < 2 ^ 31 by decide), s6, ckb_nI (show 2 < 3 by decide) (by decide), nm_eq, nI_1]
    have m0 : f_M_goThird_17 N (fu' + 1) ρ x (nI (h (T 2))) = if x = 0 then (if nI hw' = 2 then bd (f_M_goTogether N (wa ρ 19 (nI 2) (-1))) (fun _ s => some ((), s)) else some ((), ρ)) else some ((), ρ) := by
      show f_M_goThird_17_b N (f_M_goThird_17 N fu') ρ x (nI (h (T 2))) = _
      unfold f_M_goThird_17_b f_M_goThird_66
      rw [show ∀ k : Option (Unit × St), ckb (2 : Int32) 3 k = k from fun k => ckb_nI (j := 2) (by decide) (by decide), show ((2 : Int32)).toNatClampNeg = 2 from by decide, t2, ckb_nI (show tb ρ 2 < 6 by omega) (by decide), nI_clamp (show tb ρ 2 < 2 ^ 31 by omega), hh.2.2.2.2.2, ht, if_pos (nI_le (Nat.le_refl _) (by omega)), s7, if_pos hw]
      simp only [show ∀ k : Option (Unit × St), ckb (2 : Int32) 3 k = k from fun k => ckb_nI (j := 2) (by decide) (by decide), nm_eq]
      rfl
    rw [x0, m0]
    by_cases c : x = 0
    · rw [if_pos c, if_pos c]
      by_cases c2 : nI hw' = 2
      · rw [if_pos c2, if_pos c2]
        obtain ⟨cc, σ', ρ', z1, z2, z3⟩ := IN k _ _ (H4 k σ ρ 2 (-1) (by decide) (Or.inl rfl) hJ) (by have := hB2 c; omega) (hR.set (by decide) (Or.inl rfl))
        rw [z1, z2, bd_eq, bd_eq]
        refine ⟨cc, σ', ρ', rfl, rfl, ?_⟩
        rcases z3 with ⟨y1, k', y0, y2, y3⟩ | y
        · exact Or.inl ⟨y1, k', by have := hB2 c; omega, y2, y3.le (by omega)⟩
        · exact Or.inr y
      · rw [if_neg c2, if_neg c2]
        exact ⟨0, σ, ρ, rfl, rfl, Or.inl ⟨rfl, k, by omega, hJ, hR⟩⟩
    · rw [if_neg c, if_neg c]
      exact ⟨0, σ, ρ, rfl, rfl, Or.inl ⟨rfl, k, by omega, hJ, hR⟩⟩
  | succ q ih =>
    intro r fu fu' k B σ ρ x hJ hB1 hB2 hB3 hR hr hfu hfu' hx
    obtain ⟨fu, rfl⟩ : ∃ q, fu = q + 1 := ⟨fu - 1, by omega⟩
    obtain ⟨fu', rfl⟩ : ∃ q, fu' = q + 1 := ⟨fu' - 1, by omega⟩
    obtain ⟨d, hw, -, -, -, hT⟩ := H1 k σ ρ hJ
    have ht := hT 2 hk
    obtain ⟨t1, t2, t3⟩ := src_t d.2.2 hk d.1.1
    have t6 := d.1.1
    have ns3 := d.2.2.1.1
    have hh := d.1.2.2.2.1 _ t1
    have hh8 := hh.2.2.1
    rw [ht] at hh8
    obtain ⟨σ1, hσ1⟩ : ∃ s, s = wa σ 23 (nI 2) (nI r) := ⟨_, rfl⟩
    obtain ⟨ρ1, hρ1⟩ : ∃ s, s = wa ρ 19 (nI 2) (nI r) := ⟨_, rfl⟩
    have J1 : J k σ1 ρ1 := by rw [hσ1, hρ1]; exact H4 k σ ρ 2 (nI r) (by decide) (Or.inr ⟨r, by omega, rfl⟩) hJ
    have R1 : Rw σ1 ρ1 h (2 + 1) := by rw [hσ1, hρ1]; exact hR.set (by decide) (Or.inr ⟨r, by rw [ht]; omega, rfl⟩)
    obtain ⟨d1, hw1, hg1, co1, ag1, -⟩ := H1 k σ1 ρ1 J1
    obtain ⟨t, hw', s1, s2, s3, s4, s5, s6, s7, s8⟩ := d1.2.2.1.2.2.2 2 hk
    have xs : f_R_joinFrom_39 N g (f_jf N g f) (fu + 1) σ (nI 2) (nI (h (T 2))) x (nI r) = if nI hw' = 0 then f_R_joinFrom_89 N g (f_jf N g f) (f_R_joinFrom_39 N g (f_jf N g f) fu) σ1 (nI 2) (nI (h (T 2))) x (nI r) 1 else bd (f_ev N g 130 1 σ1 (ga σ1 15 2) 0) fun r7 s8 => f_R_joinFrom_89 N g (f_jf N g f) (f_R_joinFrom_39 N g (f_jf N g f) fu) s8 (nI 2) (nI (h (T 2))) x (nI r) r7 := by
      show f_R_joinFrom_39_b N g (f_jf N g f) (f_R_joinFrom_39 N g (f_jf N g f) fu) σ (nI 2) (nI (h (T 2))) x (nI r) = _
      unfold f_R_joinFrom_39_b
      rw [if_neg (nI_ge (by omega) (by omega)), ckb_nI (show 2 < 3 by decide) (by decide), nm_eq, ckb_nI (show 2 < 3 by decide) (by decide), nI_clamp (show 2 < 2 ^ 31 by decide), ckb_nI (show 2 < 3 by decide) (by decide), ← hσ1, s6]
    have ms : f_M_goThird_17 N (fu' + 1) ρ x (nI r) = bd (f_M_goes N ρ1 2) fun r5 s6 => if r5 = 0 then f_M_goThird_17 N fu' s6 x (nI (r + 1)) else bd (f_M_goTogether N s6) fun _ s8 => f_M_goThird_17 N fu' s8 1 (nI (r + 1)) := by
      show f_M_goThird_17_b N (f_M_goThird_17 N fu') ρ x (nI r) = _
      unfold f_M_goThird_17_b
      rw [show ∀ k : Option (Unit × St), ckb (2 : Int32) 3 k = k from fun k => ckb_nI (j := 2) (by decide) (by decide), show ((2 : Int32)).toNatClampNeg = 2 from by decide, t2, ckb_nI (show tb ρ 2 < 6 by omega) (by decide), nI_clamp (show tb ρ 2 < 2 ^ 31 by omega), hh.2.2.2.2.2, ht, if_neg (nI_ge (by omega) (by omega)), if_pos hw, show ∀ k : Option (Unit × St), ckb (2 : Int32) 3 k = k from fun k => ckb_nI (j := 2) (by decide) (by decide), nm_eq, nI_1, hρ1]
      rfl
    have match1 : ∀ (σ2 ρ2 : St), J k σ2 ρ2 → Rw σ2 ρ2 h (2 + 1) → Stp2 J E h 2 B (f_R_joinFrom_89 N g (f_jf N g f) (f_R_joinFrom_39 N g (f_jf N g f) fu) σ2 (nI 2) (nI (h (T 2))) x (nI r) 1) (bd (f_M_goTogether N ρ2) fun _ s8 => f_M_goThird_17 N fu' s8 1 (nI (r + 1))) := by
      intro σ2 ρ2 J2 R2
      obtain ⟨cc, σ', ρ', z1, z2, z3⟩ := IN k σ2 ρ2 J2 (by omega) R2
      unfold f_R_joinFrom_89
      rw [if_pos (show (0 : Int32) ≤ 1 by decide), if_pos rfl, nI_1, z1, z2, bd_eq, bd_eq, nI_1]
      rcases z3 with ⟨y1, k', y0, y2, y3⟩ | ⟨y1, y2, y3⟩
      · rw [if_pos y1]
        exact ih (r + 1) fu fu' k' B σ' ρ' 1 y2 (by omega) (fun z => absurd z (by decide)) hB3 (y3.le (by omega)) (by omega) (by omega) (by omega) (Or.inr rfl)
      · rw [if_neg y1, m_stop2 (H6 σ' ρ' y3) hk (by omega) (by rw [y2]; exact y1)]
        exact ⟨cc, σ', ρ', rfl, rfl, Or.inr ⟨y1, y2, y3⟩⟩
    rw [xs, ms]
    unfold f_M_goes
    rw [show ∀ k : Option (Int32 × St), ckb (2 : Int32) 3 k = k from fun k => ckb_nI (j := 2) (by decide) (by decide), show ((2 : Int32)).toNatClampNeg = 2 from by decide, s7]
    by_cases c : nI hw' = 0
    · rw [if_pos c, if_pos c, bd_eq, if_neg (show ¬ (1 : Int32) = 0 by decide)]
      exact match1 σ1 ρ1 J1 R1
    · rw [if_neg c, if_neg c, show ∀ k : Option (Int32 × St), ckb (2 : Int32) 3 k = k from fun k => ckb_nI (j := 2) (by decide) (by decide)]
      rcases s8 with ⟨z, -⟩ | ⟨z, j, j1, j2, j3, j4⟩
      · exact absurd (show nI hw' = 0 by rw [z]; rfl) c
      · rw [j2, j3]
        have ck := co1.1 2 hk
        have ab := ag1.1 2 hk
        rw [j2] at ck ab
        obtain ⟨tv, l, b, ρ2, e1, e2, mf, e3⟩ := ev_cond N hN g d1 R1 (by omega) j1 j4 ck ab hg1 hw1
        rw [e1, e2, bd_eq, bd_eq]
        rcases e3 with ⟨u1, u2, u3, u4⟩ | ⟨u1, u2, u3, u4⟩
        · rw [if_pos u4, bd_eq, if_pos rfl]
          have EE := H3 k σ1 ρ1 ρ2 l J1 mf
          rw [m_stop2 (H6 _ _ EE) hk (by omega) (by rw [u3]; exact u2)]
          unfold f_R_joinFrom_89
          rw [if_neg (show ¬ (0 : Int32) ≤ tv from fun z => absurd u1 (Int32.not_lt.mpr z))]
          exact ⟨tv, _, ρ2, rfl, rfl, Or.inr ⟨u2, u3, EE⟩⟩
        · have J2 := H2 k σ1 ρ1 ρ2 l J1 mf u2
          have R2 : Rw (wL σ1 l) ρ2 h (2 + 1) := R1.mf mf
          by_cases c1 : b = 0
          · rw [if_pos c1, bd_eq, if_pos rfl]
            unfold f_R_joinFrom_89
            rw [if_pos u1, if_neg (show ¬ tv = 1 from fun z => by have := u4.mp z; rw [c1] at this; exact absurd this (by decide)), nI_1]
            exact ih (r + 1) fu fu' k B _ ρ2 x J2 (by omega) hB2 hB3 (R2.le (by omega)) (by omega) (by omega) (by omega) hx
          · have b1 : b = 1 := by rcases u3 with z | z; exact absurd z c1; exact z
            rw [if_neg c1, bd_eq, if_neg (show ¬ (1 : Int32) = 0 by decide), u4.mpr b1]
            exact match1 _ ρ2 J2 R2
theorem j_lv2 (N : Nat) (hN : 200 < N) (g : Bool) {nt n m ns ng ni no f : Nat} {w h T : Nat → Nat} {τ : Nat → Tr} {J : Nat → St → St → Prop} {E : St → St → Prop} (H : JH N g nt n m ns ng ni no w h T τ J E) (hk : 2 ≤ ns)
    (IN : 2 < ns → ∀ k σ ρ, J k σ ρ → k + 1 ≤ 512 → Rw σ ρ h (2 + 1) → Stp2 J E h (2 + 1) (k + 1) (f_jf N g f σ (nI (2 + 1))) (f_M_goTogether N ρ)) (k : Nat) (σ ρ : St) (hJ : J k σ ρ) (hB : k + 8 ≤ 512) (hR : Rw σ ρ h 2) : Stp2 J E h 2 (k + 8) (f_jf N g (f + 1) σ (nI 2)) (f_M_goThird N ρ) := by
  obtain ⟨d, hw, -, -, -, hT⟩ := H.1 k σ ρ hJ
  have ns3 := d.2.2.1.1
  have t6 := d.1.1
  have e0 : f_jf N g (f + 1) σ (nI 2) = f_R_joinFrom_b N g (f_jf N g f) σ (nI 2) := rfl
  rw [e0]
  unfold f_R_joinFrom_b f_M_goThird
  rw [d.2.2.1.2.1, d.2.2.1.2.2.1]
  by_cases c : 2 < ns
  · obtain ⟨t1, t2, t3⟩ := src_t d.2.2 c d.1.1
    have hh := d.1.2.2.2.1 _ t1
    have hh8 := hh.2.2.1
    rw [if_pos (nI_lt c (by omega)), if_pos (show (3 : Int32) ≤ nI ns from nI_le (a := 3) (by omega) (by omega)), ckb_nI (show 2 < 3 by decide) (by decide), nI_clamp (show 2 < 2 ^ 31 by decide), t3, ckb_nI (show tb ρ 2 < 6 by omega) (by decide), nI_clamp (show tb ρ 2 < 2 ^ 31 by omega), d.1.2.2.2.2.1 _ (by omega), hT 2 c]
    rw [hT 2 c] at hh8
    exact j_loop2 N hN g H c (IN c) (h (T 2)) 0 N N k (k + 8) σ ρ 0 hJ (by omega) (fun _ => by omega) hB hR (by omega) (by omega) (by omega) (Or.inl rfl)
  · have e : ns = 2 := by omega
    rw [if_neg (nI_nlt (by omega) (by omega)), if_neg (show ¬ (3 : Int32) ≤ nI ns from nI_ge (b := 3) (by omega) (by decide))]
    refine Stp2.mono (B := k + 1) (by omega) ?_
    obtain ⟨cc, σ', ρ', z1, z2, z3⟩ := H.2.2.2.2.1 k σ ρ hJ (by omega) (by rw [e]; exact hR)
    rw [z1, z2, bd_eq, bd_eq]
    rw [e] at z3
    exact ⟨cc, σ', ρ', rfl, rfl, z3⟩
theorem m_stop1 {N : Nat} {ρ : St} {nt n m ns ng ni no fu : Nat} {σ : St} {w h : Nat → Nat} {τ : Nat → Tr} (d : Dat σ ρ nt n m ns ng ni no w h τ) (hk : 1 < ns) (hf : 0 < fu) (hw : ¬ gi ρ 14 = 0) (x1 : Int32) (r : Nat) : f_M_goSecond_17 N fu ρ x1 (nI r) = some ((), ρ) := by
  obtain ⟨fu, rfl⟩ : ∃ q, fu = q + 1 := ⟨fu - 1, by omega⟩
  obtain ⟨t1, t2, t3⟩ := src_t d.2.2 hk d.1.1
  have t6 := d.1.1
  have e0 : f_M_goSecond_17 N (fu + 1) ρ x1 (nI r) = f_M_goSecond_17_b N (f_M_goSecond_17 N fu) ρ x1 (nI r) := rfl
  have e66 : f_M_goSecond_66 N ρ x1 = some ((), ρ) := by
    unfold f_M_goSecond_66
    by_cases c : x1 = 0
    · rw [if_pos c, show ∀ k : Option (Unit × St), ckb (1 : Int32) 3 k = k from fun k => ckb_nI (j := 1) (by decide) (by decide)]
      by_cases c2 : ga ρ 12 ((1 : Int32)).toNatClampNeg = 2
      · rw [if_pos c2, if_neg hw]
      · rw [if_neg c2]
    · rw [if_neg c]
  rw [e0]
  unfold f_M_goSecond_17_b
  rw [show ∀ k : Option (Unit × St), ckb (1 : Int32) 3 k = k from fun k => ckb_nI (j := 1) (by decide) (by decide), show ((1 : Int32)).toNatClampNeg = 1 from by decide, t2, ckb_nI (show tb ρ 1 < 6 by omega) (by decide), e66, if_neg hw]
  split <;> rfl
theorem j_loop1 (N : Nat) (hN : 200 < N) (g : Bool) {nt n m ns ng ni no f : Nat} {w h T : Nat → Nat} {τ : Nat → Tr} {J : Nat → St → St → Prop} {E : St → St → Prop} (H : JH N g nt n m ns ng ni no w h T τ J E) (hk : 1 < ns)
    (IN : ∀ k σ ρ, J k σ ρ → k + 8 ≤ 512 → Rw σ ρ h (1 + 1) → Stp2 J E h (1 + 1) (k + 8) (f_jf N g f σ (nI (1 + 1))) (f_M_goThird N ρ)) :
    ∀ (q r fu fu' k B : Nat) (σ ρ : St) (x : Int32), J k σ ρ → k + q * 8 ≤ B → (x = 0 → k + 8 * 8 ≤ B) → B ≤ 512 → Rw σ ρ h 1 → r + q = h (T 1) → q < fu → q < fu' → (x = 0 ∨ x = 1) → Stp2 J E h 1 B (f_R_joinFrom_39 N g (f_jf N g f) fu σ (nI 1) (nI (h (T 1))) x (nI r)) (f_M_goSecond_17 N fu' ρ x (nI r)) := by
  obtain ⟨H1, H2, H3, H4, H5, H6⟩ := H
  intro q
  induction q with
  | zero =>
    intro r fu fu' k B σ ρ x hJ hB1 hB2 hB3 hR hr hfu hfu' hx
    obtain ⟨fu, rfl⟩ : ∃ q, fu = q + 1 := ⟨fu - 1, by omega⟩
    obtain ⟨fu', rfl⟩ : ∃ q, fu' = q + 1 := ⟨fu' - 1, by omega⟩
    obtain ⟨d, hw, -, -, -, hT⟩ := H1 k σ ρ hJ
    have ht := hT 1 hk
    obtain ⟨t1, t2, t3⟩ := src_t d.2.2 hk d.1.1
    have t6 := d.1.1
    have hh := d.1.2.2.2.1 _ t1
    obtain ⟨t, hw', s1, s2, s3, s4, s5, s6, s7, s8⟩ := d.2.2.1.2.2.2 1 hk
    have er : r = h (T 1) := by omega
    subst er
    have hh8 := hh.2.2.1
    rw [ht] at hh8
    have x0 : f_R_joinFrom_39 N g (f_jf N g f) (fu + 1) σ (nI 1) (nI (h (T 1))) x (nI (h (T 1))) = if x = 0 then (if nI hw' = 2 then bd (f_jf N g f (wa σ 23 (nI 1) (-1)) (nI (1 + 1))) (fun r s => some (r, s)) else some (0, σ)) else some (0, σ) := by
      show f_R_joinFrom_39_b N g (f_jf N g f) (f_R_joinFrom_39 N g (f_jf N g f) fu) σ (nI 1) (nI (h (T 1))) x (nI (h (T 1))) = _
      unfold f_R_joinFrom_39_b
      rw [if_pos (nI_le (Nat.le_refl _) (by omega)), ckb_nI (show 1 < 3 by decide) (by decide), nI_clamp (show 1 < 2 ^ 31 by decide), s6, ckb_nI (show 1 < 3 by decide) (by decide), nm_eq, nI_1]
    have m0 : f_M_goSecond_17 N (fu' + 1) ρ x (nI (h (T 1))) = if x = 0 then (if nI hw' = 2 then bd (f_M_goThird N (wa ρ 19 (nI 1) (-1))) (fun _ s => some ((), s)) else some ((), ρ)) else some ((), ρ) := by
      show f_M_goSecond_17_b N (f_M_goSecond_17 N fu') ρ x (nI (h (T 1))) = _
      unfold f_M_goSecond_17_b f_M_goSecond_66
      rw [show ∀ k : Option (Unit × St), ckb (1 : Int32) 3 k = k from fun k => ckb_nI (j := 1) (by decide) (by decide), show ((1 : Int32)).toNatClampNeg = 1 from by decide, t2, ckb_nI (show tb ρ 1 < 6 by omega) (by decide), nI_clamp (show tb ρ 1 < 2 ^ 31 by omega), hh.2.2.2.2.2, ht, if_pos (nI_le (Nat.le_refl _) (by omega)), s7, if_pos hw]
      simp only [show ∀ k : Option (Unit × St), ckb (1 : Int32) 3 k = k from fun k => ckb_nI (j := 1) (by decide) (by decide), nm_eq]
      rfl
    rw [x0, m0]
    by_cases c : x = 0
    · rw [if_pos c, if_pos c]
      by_cases c2 : nI hw' = 2
      · rw [if_pos c2, if_pos c2]
        obtain ⟨cc, σ', ρ', z1, z2, z3⟩ := IN k _ _ (H4 k σ ρ 1 (-1) (by decide) (Or.inl rfl) hJ) (by have := hB2 c; omega) (hR.set (by decide) (Or.inl rfl))
        rw [z1, z2, bd_eq, bd_eq]
        refine ⟨cc, σ', ρ', rfl, rfl, ?_⟩
        rcases z3 with ⟨y1, k', y0, y2, y3⟩ | y
        · exact Or.inl ⟨y1, k', by have := hB2 c; omega, y2, y3.le (by omega)⟩
        · exact Or.inr y
      · rw [if_neg c2, if_neg c2]
        exact ⟨0, σ, ρ, rfl, rfl, Or.inl ⟨rfl, k, by omega, hJ, hR⟩⟩
    · rw [if_neg c, if_neg c]
      exact ⟨0, σ, ρ, rfl, rfl, Or.inl ⟨rfl, k, by omega, hJ, hR⟩⟩
  | succ q ih =>
    intro r fu fu' k B σ ρ x hJ hB1 hB2 hB3 hR hr hfu hfu' hx
    obtain ⟨fu, rfl⟩ : ∃ q, fu = q + 1 := ⟨fu - 1, by omega⟩
    obtain ⟨fu', rfl⟩ : ∃ q, fu' = q + 1 := ⟨fu' - 1, by omega⟩
    obtain ⟨d, hw, -, -, -, hT⟩ := H1 k σ ρ hJ
    have ht := hT 1 hk
    obtain ⟨t1, t2, t3⟩ := src_t d.2.2 hk d.1.1
    have t6 := d.1.1
    have ns3 := d.2.2.1.1
    have hh := d.1.2.2.2.1 _ t1
    have hh8 := hh.2.2.1
    rw [ht] at hh8
    obtain ⟨σ1, hσ1⟩ : ∃ s, s = wa σ 23 (nI 1) (nI r) := ⟨_, rfl⟩
    obtain ⟨ρ1, hρ1⟩ : ∃ s, s = wa ρ 19 (nI 1) (nI r) := ⟨_, rfl⟩
    have J1 : J k σ1 ρ1 := by rw [hσ1, hρ1]; exact H4 k σ ρ 1 (nI r) (by decide) (Or.inr ⟨r, by omega, rfl⟩) hJ
    have R1 : Rw σ1 ρ1 h (1 + 1) := by rw [hσ1, hρ1]; exact hR.set (by decide) (Or.inr ⟨r, by rw [ht]; omega, rfl⟩)
    obtain ⟨d1, hw1, hg1, co1, ag1, -⟩ := H1 k σ1 ρ1 J1
    obtain ⟨t, hw', s1, s2, s3, s4, s5, s6, s7, s8⟩ := d1.2.2.1.2.2.2 1 hk
    have xs : f_R_joinFrom_39 N g (f_jf N g f) (fu + 1) σ (nI 1) (nI (h (T 1))) x (nI r) = if nI hw' = 0 then f_R_joinFrom_89 N g (f_jf N g f) (f_R_joinFrom_39 N g (f_jf N g f) fu) σ1 (nI 1) (nI (h (T 1))) x (nI r) 1 else bd (f_ev N g 130 1 σ1 (ga σ1 15 1) 0) fun r7 s8 => f_R_joinFrom_89 N g (f_jf N g f) (f_R_joinFrom_39 N g (f_jf N g f) fu) s8 (nI 1) (nI (h (T 1))) x (nI r) r7 := by
      show f_R_joinFrom_39_b N g (f_jf N g f) (f_R_joinFrom_39 N g (f_jf N g f) fu) σ (nI 1) (nI (h (T 1))) x (nI r) = _
      unfold f_R_joinFrom_39_b
      rw [if_neg (nI_ge (by omega) (by omega)), ckb_nI (show 1 < 3 by decide) (by decide), nm_eq, ckb_nI (show 1 < 3 by decide) (by decide), nI_clamp (show 1 < 2 ^ 31 by decide), ckb_nI (show 1 < 3 by decide) (by decide), ← hσ1, s6]
    have ms : f_M_goSecond_17 N (fu' + 1) ρ x (nI r) = bd (f_M_goes N ρ1 1) fun r5 s6 => if r5 = 0 then f_M_goSecond_17 N fu' s6 x (nI (r + 1)) else bd (f_M_goThird N s6) fun _ s8 => f_M_goSecond_17 N fu' s8 1 (nI (r + 1)) := by
      show f_M_goSecond_17_b N (f_M_goSecond_17 N fu') ρ x (nI r) = _
      unfold f_M_goSecond_17_b
      rw [show ∀ k : Option (Unit × St), ckb (1 : Int32) 3 k = k from fun k => ckb_nI (j := 1) (by decide) (by decide), show ((1 : Int32)).toNatClampNeg = 1 from by decide, t2, ckb_nI (show tb ρ 1 < 6 by omega) (by decide), nI_clamp (show tb ρ 1 < 2 ^ 31 by omega), hh.2.2.2.2.2, ht, if_neg (nI_ge (by omega) (by omega)), if_pos hw, show ∀ k : Option (Unit × St), ckb (1 : Int32) 3 k = k from fun k => ckb_nI (j := 1) (by decide) (by decide), nm_eq, nI_1, hρ1]
      rfl
    have match1 : ∀ (σ2 ρ2 : St), J k σ2 ρ2 → Rw σ2 ρ2 h (1 + 1) → Stp2 J E h 1 B (f_R_joinFrom_89 N g (f_jf N g f) (f_R_joinFrom_39 N g (f_jf N g f) fu) σ2 (nI 1) (nI (h (T 1))) x (nI r) 1) (bd (f_M_goThird N ρ2) fun _ s8 => f_M_goSecond_17 N fu' s8 1 (nI (r + 1))) := by
      intro σ2 ρ2 J2 R2
      obtain ⟨cc, σ', ρ', z1, z2, z3⟩ := IN k σ2 ρ2 J2 (by omega) R2
      unfold f_R_joinFrom_89
      rw [if_pos (show (0 : Int32) ≤ 1 by decide), if_pos rfl, nI_1, z1, z2, bd_eq, bd_eq, nI_1]
      rcases z3 with ⟨y1, k', y0, y2, y3⟩ | ⟨y1, y2, y3⟩
      · rw [if_pos y1]
        exact ih (r + 1) fu fu' k' B σ' ρ' 1 y2 (by omega) (fun z => absurd z (by decide)) hB3 (y3.le (by omega)) (by omega) (by omega) (by omega) (Or.inr rfl)
      · rw [if_neg y1, m_stop1 (H6 σ' ρ' y3) hk (by omega) (by rw [y2]; exact y1)]
        exact ⟨cc, σ', ρ', rfl, rfl, Or.inr ⟨y1, y2, y3⟩⟩
    rw [xs, ms]
    unfold f_M_goes
    rw [show ∀ k : Option (Int32 × St), ckb (1 : Int32) 3 k = k from fun k => ckb_nI (j := 1) (by decide) (by decide), show ((1 : Int32)).toNatClampNeg = 1 from by decide, s7]
    by_cases c : nI hw' = 0
    · rw [if_pos c, if_pos c, bd_eq, if_neg (show ¬ (1 : Int32) = 0 by decide)]
      exact match1 σ1 ρ1 J1 R1
    · rw [if_neg c, if_neg c, show ∀ k : Option (Int32 × St), ckb (1 : Int32) 3 k = k from fun k => ckb_nI (j := 1) (by decide) (by decide)]
      rcases s8 with ⟨z, -⟩ | ⟨z, j, j1, j2, j3, j4⟩
      · exact absurd (show nI hw' = 0 by rw [z]; rfl) c
      · rw [j2, j3]
        have ck := co1.1 1 hk
        have ab := ag1.1 1 hk
        rw [j2] at ck ab
        obtain ⟨tv, l, b, ρ2, e1, e2, mf, e3⟩ := ev_cond N hN g d1 R1 (by omega) j1 j4 ck ab hg1 hw1
        rw [e1, e2, bd_eq, bd_eq]
        rcases e3 with ⟨u1, u2, u3, u4⟩ | ⟨u1, u2, u3, u4⟩
        · rw [if_pos u4, bd_eq, if_pos rfl]
          have EE := H3 k σ1 ρ1 ρ2 l J1 mf
          rw [m_stop1 (H6 _ _ EE) hk (by omega) (by rw [u3]; exact u2)]
          unfold f_R_joinFrom_89
          rw [if_neg (show ¬ (0 : Int32) ≤ tv from fun z => absurd u1 (Int32.not_lt.mpr z))]
          exact ⟨tv, _, ρ2, rfl, rfl, Or.inr ⟨u2, u3, EE⟩⟩
        · have J2 := H2 k σ1 ρ1 ρ2 l J1 mf u2
          have R2 : Rw (wL σ1 l) ρ2 h (1 + 1) := R1.mf mf
          by_cases c1 : b = 0
          · rw [if_pos c1, bd_eq, if_pos rfl]
            unfold f_R_joinFrom_89
            rw [if_pos u1, if_neg (show ¬ tv = 1 from fun z => by have := u4.mp z; rw [c1] at this; exact absurd this (by decide)), nI_1]
            exact ih (r + 1) fu fu' k B _ ρ2 x J2 (by omega) hB2 hB3 (R2.le (by omega)) (by omega) (by omega) (by omega) hx
          · have b1 : b = 1 := by rcases u3 with z | z; exact absurd z c1; exact z
            rw [if_neg c1, bd_eq, if_neg (show ¬ (1 : Int32) = 0 by decide), u4.mpr b1]
            exact match1 _ ρ2 J2 R2
theorem j_lv1 (N : Nat) (hN : 200 < N) (g : Bool) {nt n m ns ng ni no f : Nat} {w h T : Nat → Nat} {τ : Nat → Tr} {J : Nat → St → St → Prop} {E : St → St → Prop} (H : JH N g nt n m ns ng ni no w h T τ J E) (hk : 1 ≤ ns)
    (IN : 1 < ns → ∀ k σ ρ, J k σ ρ → k + 8 ≤ 512 → Rw σ ρ h (1 + 1) → Stp2 J E h (1 + 1) (k + 8) (f_jf N g f σ (nI (1 + 1))) (f_M_goThird N ρ)) (k : Nat) (σ ρ : St) (hJ : J k σ ρ) (hB : k + 64 ≤ 512) (hR : Rw σ ρ h 1) : Stp2 J E h 1 (k + 64) (f_jf N g (f + 1) σ (nI 1)) (f_M_goSecond N ρ) := by
  obtain ⟨d, hw, -, -, -, hT⟩ := H.1 k σ ρ hJ
  have ns3 := d.2.2.1.1
  have t6 := d.1.1
  have e0 : f_jf N g (f + 1) σ (nI 1) = f_R_joinFrom_b N g (f_jf N g f) σ (nI 1) := rfl
  rw [e0]
  unfold f_R_joinFrom_b f_M_goSecond
  rw [d.2.2.1.2.1, d.2.2.1.2.2.1]
  by_cases c : 1 < ns
  · obtain ⟨t1, t2, t3⟩ := src_t d.2.2 c d.1.1
    have hh := d.1.2.2.2.1 _ t1
    have hh8 := hh.2.2.1
    rw [if_pos (nI_lt c (by omega)), if_pos (show (2 : Int32) ≤ nI ns from nI_le (a := 2) (by omega) (by omega)), ckb_nI (show 1 < 3 by decide) (by decide), nI_clamp (show 1 < 2 ^ 31 by decide), t3, ckb_nI (show tb ρ 1 < 6 by omega) (by decide), nI_clamp (show tb ρ 1 < 2 ^ 31 by omega), d.1.2.2.2.2.1 _ (by omega), hT 1 c]
    rw [hT 1 c] at hh8
    exact j_loop1 N hN g H c (IN c) (h (T 1)) 0 N N k (k + 64) σ ρ 0 hJ (by omega) (fun _ => by omega) hB hR (by omega) (by omega) (by omega) (Or.inl rfl)
  · have e : ns = 1 := by omega
    rw [if_neg (nI_nlt (by omega) (by omega)), if_neg (show ¬ (2 : Int32) ≤ nI ns from nI_ge (b := 2) (by omega) (by decide))]
    refine Stp2.mono (B := k + 1) (by omega) ?_
    obtain ⟨cc, σ', ρ', z1, z2, z3⟩ := H.2.2.2.2.1 k σ ρ hJ (by omega) (by rw [e]; exact hR)
    rw [z1, z2, bd_eq, bd_eq]
    rw [e] at z3
    exact ⟨cc, σ', ρ', rfl, rfl, z3⟩
theorem j_lv3 (N : Nat) (g : Bool) {nt n m ns ng ni no f : Nat} {w h T : Nat → Nat} {τ : Nat → Tr} {J : Nat → St → St → Prop} {E : St → St → Prop} (H : JH N g nt n m ns ng ni no w h T τ J E) (hk : 2 < ns) (k : Nat) (σ ρ : St) (hJ : J k σ ρ) (hB : k + 1 ≤ 512) (hR : Rw σ ρ h (2 + 1)) : Stp2 J E h (2 + 1) (k + 1) (f_jf N g (f + 1) σ (nI (2 + 1))) (f_M_goTogether N ρ) := by
  obtain ⟨d, hw, -, -, -, hT⟩ := H.1 k σ ρ hJ
  have ns3 := d.2.2.1.1
  have e : ns = 3 := by omega
  have e0 : f_jf N g (f + 1) σ (nI (2 + 1)) = f_R_joinFrom_b N g (f_jf N g f) σ (nI (2 + 1)) := rfl
  rw [e0]
  unfold f_R_joinFrom_b
  rw [d.2.2.1.2.1, if_neg (nI_nlt (by omega) (by omega))]
  obtain ⟨cc, σ', ρ', z1, z2, z3⟩ := H.2.2.2.2.1 k σ ρ hJ (by omega) (by rw [e]; exact hR)
  rw [z1, z2, bd_eq]
  rw [e] at z3
  exact ⟨cc, σ', ρ', rfl, rfl, z3⟩
theorem j_loop0 (N : Nat) (hN : 200 < N) (g : Bool) {nt n m ns ng ni no f : Nat} {w h T : Nat → Nat} {τ : Nat → Tr} {J : Nat → St → St → Prop} {E : St → St → Prop} (H : JH N g nt n m ns ng ni no w h T τ J E) (hk : 0 < ns)
    (IN : ∀ k σ ρ, J k σ ρ → k + 64 ≤ 512 → Rw σ ρ h (0 + 1) → Stp2 J E h (0 + 1) (k + 64) (f_jf N g f σ (nI (0 + 1))) (f_M_goSecond N ρ)) :
    ∀ (q r fu fu' k B : Nat) (σ ρ : St) (x : Int32), J k σ ρ → k + q * 64 ≤ B → B ≤ 512 → r + q = h (T 0) → q < fu → q < fu' → Stp2 J E h 0 B (f_R_joinFrom_39 N g (f_jf N g f) fu σ (nI 0) (nI (h (T 0))) x (nI r)) (f_M_goFirst_2 N fu' ρ (nI r)) := by
  obtain ⟨H1, H2, H3, H4, H5, H6⟩ := H
  have nR : ∀ {σ ρ : St}, Rw σ ρ h 0 := fun k hk => by omega
  intro q
  induction q with
  | zero =>
    intro r fu fu' k B σ ρ x hJ hB1 hB3 hr hfu hfu'
    obtain ⟨fu, rfl⟩ : ∃ q, fu = q + 1 := ⟨fu - 1, by omega⟩
    obtain ⟨fu', rfl⟩ : ∃ q, fu' = q + 1 := ⟨fu' - 1, by omega⟩
    obtain ⟨d, hw, -, -, -, hT⟩ := H1 k σ ρ hJ
    have ht := hT 0 hk
    obtain ⟨t1, t2, t3⟩ := src_t d.2.2 hk d.1.1
    have t6 := d.1.1
    have hh := d.1.2.2.2.1 _ t1
    obtain ⟨t, hw', s1, s2, s3, s4, s5, s6, s7, s8⟩ := d.2.2.1.2.2.2 0 hk
    have hz := s3 rfl
    subst hz
    have er : r = h (T 0) := by omega
    subst er
    have hh8 := hh.2.2.1
    rw [ht] at hh8
    have x0 : f_R_joinFrom_39 N g (f_jf N g f) (fu + 1) σ (nI 0) (nI (h (T 0))) x (nI (h (T 0))) = some (0, σ) := by
      show f_R_joinFrom_39_b N g (f_jf N g f) (f_R_joinFrom_39 N g (f_jf N g f) fu) σ (nI 0) (nI (h (T 0))) x (nI (h (T 0))) = _
      unfold f_R_joinFrom_39_b
      rw [if_pos (nI_le (Nat.le_refl _) (by omega)), ckb_nI (show 0 < 3 by decide) (by decide), nI_clamp (show 0 < 2 ^ 31 by decide), s6, if_neg (show ¬ nI 0 = 2 by decide)]
      split <;> rfl
    have m0 : f_M_goFirst_2 N (fu' + 1) ρ (nI (h (T 0))) = some ((), ρ) := by
      show f_M_goFirst_2_b N (f_M_goFirst_2 N fu') ρ (nI (h (T 0))) = _
      unfold f_M_goFirst_2_b
      rw [show ∀ k : Option (Unit × St), ckb (0 : Int32) 3 k = k from fun k => ckb_nI (j := 0) (by decide) (by decide), show ((0 : Int32)).toNatClampNeg = 0 from by decide, t2, ckb_nI (show tb ρ 0 < 6 by omega) (by decide), nI_clamp (show tb ρ 0 < 2 ^ 31 by omega), hh.2.2.2.2.2, ht, if_pos (nI_le (Nat.le_refl _) (by omega))]
    rw [x0, m0]
    exact ⟨0, σ, ρ, rfl, rfl, Or.inl ⟨rfl, k, by omega, hJ, nR⟩⟩
  | succ q ih =>
    intro r fu fu' k B σ ρ x hJ hB1 hB3 hr hfu hfu'
    obtain ⟨fu, rfl⟩ : ∃ q, fu = q + 1 := ⟨fu - 1, by omega⟩
    obtain ⟨fu', rfl⟩ : ∃ q, fu' = q + 1 := ⟨fu' - 1, by omega⟩
    obtain ⟨d, hw, -, -, -, hT⟩ := H1 k σ ρ hJ
    have ht := hT 0 hk
    obtain ⟨t1, t2, t3⟩ := src_t d.2.2 hk d.1.1
    have t6 := d.1.1
    have hh := d.1.2.2.2.1 _ t1
    have hh8 := hh.2.2.1
    rw [ht] at hh8
    obtain ⟨t, hw', s1, s2, s3, s4, s5, s6, s7, s8⟩ := d.2.2.1.2.2.2 0 hk
    have hz := s3 rfl
    subst hz
    obtain ⟨σ1, hσ1⟩ : ∃ s, s = wa σ 23 (nI 0) (nI r) := ⟨_, rfl⟩
    obtain ⟨ρ1, hρ1⟩ : ∃ s, s = wa ρ 19 (nI 0) (nI r) := ⟨_, rfl⟩
    have J1 : J k σ1 ρ1 := by rw [hσ1, hρ1]; exact H4 k σ ρ 0 (nI r) (by decide) (Or.inr ⟨r, by omega, rfl⟩) hJ
    have R1 : Rw σ1 ρ1 h (0 + 1) := by rw [hσ1, hρ1]; exact nR.set (by decide) (Or.inr ⟨r, by rw [ht]; omega, rfl⟩)
    obtain ⟨cc, σ', ρ', z1, z2, z3⟩ := IN k σ1 ρ1 J1 (by omega) R1
    have xs : f_R_joinFrom_39 N g (f_jf N g f) (fu + 1) σ (nI 0) (nI (h (T 0))) x (nI r) = if cc = 0 then f_R_joinFrom_39 N g (f_jf N g f) fu σ' (nI 0) (nI (h (T 0))) 1 (nI (r + 1)) else some (cc, σ') := by
      show f_R_joinFrom_39_b N g (f_jf N g f) (f_R_joinFrom_39 N g (f_jf N g f) fu) σ (nI 0) (nI (h (T 0))) x (nI r) = _
      unfold f_R_joinFrom_39_b f_R_joinFrom_89
      rw [if_neg (nI_ge (by omega) (by omega)), ckb_nI (show 0 < 3 by decide) (by decide), nm_eq, ckb_nI (show 0 < 3 by decide) (by decide), nI_clamp (show 0 < 2 ^ 31 by decide), ← hσ1, show ga σ1 14 0 = nI 0 by rw [hσ1]; exact s6, if_pos (show nI 0 = 0 from rfl), if_pos (show (0 : Int32) ≤ 1 by decide), if_pos rfl, nI_1, z1, bd_eq, nI_1]
    have ms : f_M_goFirst_2 N (fu' + 1) ρ (nI r) = f_M_goFirst_2 N fu' ρ' (nI (r + 1)) := by
      show f_M_goFirst_2_b N (f_M_goFirst_2 N fu') ρ (nI r) = _
      unfold f_M_goFirst_2_b
      rw [show ∀ k : Option (Unit × St), ckb (0 : Int32) 3 k = k from fun k => ckb_nI (j := 0) (by decide) (by decide), show ((0 : Int32)).toNatClampNeg = 0 from by decide, t2, ckb_nI (show tb ρ 0 < 6 by omega) (by decide), nI_clamp (show tb ρ 0 < 2 ^ 31 by omega), hh.2.2.2.2.2, ht, if_neg (nI_ge (by omega) (by omega)), if_pos hw, show ∀ k : Option (Unit × St), ckb (0 : Int32) 3 k = k from fun k => ckb_nI (j := 0) (by decide) (by decide), nm_eq, nI_1]
      show bd (f_M_goSecond N (wa ρ 19 (nI 0) (nI r))) _ = _
      rw [← hρ1, z2, bd_eq]
    rw [xs, ms]
    rcases z3 with ⟨y1, k', y0, y2, y3⟩ | ⟨y1, y2, y3⟩
    · rw [if_pos y1]
      exact ih (r + 1) fu fu' k' B σ' ρ' 1 y2 (by omega) hB3 (by omega) (by omega) (by omega)
    · rw [if_neg y1]
      have dd := H6 σ' ρ' y3
      obtain ⟨u1, u2, u3⟩ := src_t dd.2.2 hk dd.1.1
      have stop : f_M_goFirst_2 N fu' ρ' (nI (r + 1)) = some ((), ρ') := by
        obtain ⟨fu'', rfl⟩ : ∃ q, fu' = q + 1 := ⟨fu' - 1, by omega⟩
        show f_M_goFirst_2_b N (f_M_goFirst_2 N fu'') ρ' (nI (r + 1)) = _
        unfold f_M_goFirst_2_b
        rw [show ∀ k : Option (Unit × St), ckb (0 : Int32) 3 k = k from fun k => ckb_nI (j := 0) (by decide) (by decide), show ((0 : Int32)).toNatClampNeg = 0 from by decide, u2, ckb_nI (show tb ρ' 0 < 6 by have := dd.1.1; omega) (by decide), if_neg (show ¬ gi ρ' 14 = 0 by rw [y2]; exact y1)]
        split <;> rfl
      rw [stop]
      exact ⟨cc, σ', ρ', rfl, rfl, Or.inr ⟨y1, y2, y3⟩⟩
/-- all rows of the sources -/
theorem j_all (N : Nat) (hN : 200 < N) (g : Bool) {nt n m ns ng ni no : Nat} {w h T : Nat → Nat} {τ : Nat → Tr} {J : Nat → St → St → Prop} {E : St → St → Prop} (H : JH N g nt n m ns ng ni no w h T τ J E) (hk : 0 < ns) (σ ρ : St) (hJ : J 0 σ ρ) : Stp2 J E h 0 512 (f_jf N g 6 σ 0) (f_M_goFirst N ρ) := by
  obtain ⟨d, hw, -, -, -, hT⟩ := H.1 0 σ ρ hJ
  have ns3 := d.2.2.1.1
  have t6 := d.1.1
  obtain ⟨t1, t2, t3⟩ := src_t d.2.2 hk d.1.1
  have hh := d.1.2.2.2.1 _ t1
  have hh8 := hh.2.2.1
  have e0 : f_jf N g 6 σ 0 = f_R_joinFrom_b N g (f_jf N g 5) σ (nI 0) := rfl
  rw [e0]
  unfold f_R_joinFrom_b f_M_goFirst
  rw [d.2.2.1.2.1, if_pos (nI_lt hk (by omega)), ckb_nI (show 0 < 3 by decide) (by decide), nI_clamp (show 0 < 2 ^ 31 by decide), t3, ckb_nI (show tb ρ 0 < 6 by omega) (by decide), nI_clamp (show tb ρ 0 < 2 ^ 31 by omega), d.1.2.2.2.2.1 _ (by omega), hT 0 hk]
  rw [hT 0 hk] at hh8
  refine j_loop0 N hN g H hk ?_ (h (T 0)) 0 N N 0 512 σ ρ 0 hJ (by omega) (by omega) (by omega) (by omega) (by omega)
  intro k1 σ1 ρ1 J1 B1 R1
  refine j_lv1 N hN g H (by omega) ?_ k1 σ1 ρ1 J1 B1 R1
  intro h1 k2 σ2 ρ2 J2 B2 R2
  refine j_lv2 N hN g H (by omega) ?_ k2 σ2 ρ2 J2 B2 R2
  intro h2 k3 σ3 ρ3 J3 B3 R3
  exact j_lv3 N g H h2 k3 σ3 ρ3 J3 B3 R3

