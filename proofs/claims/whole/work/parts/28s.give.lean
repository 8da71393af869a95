/-! a row of the answer, on both sides (own rows) -/
def XA (σ σ' : St) : Prop := (∀ r, r ≠ 14 → gi σ' r = gi σ r) ∧ (∀ r, r ≠ 20 → ga σ' r = ga σ r) ∧ (∀ r, r ≠ 2 → gb σ' r = gb σ r)
def MB (ρ ρ' : St) : Prop := (∀ r, r ≠ 19 → r ≠ 20 → r ≠ 14 → r ≠ 12 → gi ρ' r = gi ρ r) ∧ (∀ r, r ≠ 24 → r ≠ 25 → r ≠ 26 → r ≠ 18 → ga ρ' r = ga ρ r) ∧ (∀ r, r ≠ 6 → r ≠ 2 → gb ρ' r = gb ρ r)
theorem XA.rfl {σ : St} : XA σ σ := ⟨fun _ _ => Eq.refl _, fun _ _ => Eq.refl _, fun _ _ => Eq.refl _⟩
theorem XA.trans {a b c : St} (h : XA a b) (k : XA b c) : XA a c := ⟨fun r x => (k.1 r x).trans (h.1 r x), fun r x => (k.2.1 r x).trans (h.2.1 r x), fun r x => (k.2.2 r x).trans (h.2.2 r x)⟩
theorem MB.rfl {ρ : St} : MB ρ ρ := ⟨fun _ _ _ _ _ => Eq.refl _, fun _ _ _ _ _ => Eq.refl _, fun _ _ _ => Eq.refl _⟩
theorem MB.trans {a b c : St} (h : MB a b) (k : MB b c) : MB a c := ⟨fun r x y z u => (k.1 r x y z u).trans (h.1 r x y z u), fun r x y z u => (k.2.1 r x y z u).trans (h.2.1 r x y z u), fun r x y => (k.2.2 r x y).trans (h.2.2 r x y)⟩
theorem MF.mb {a b : St} (h : MF a b) : MB a b := ⟨fun r x y z _ => h.1 r x y z, fun r x y z _ => h.2.1 r x y z, fun r x _ => h.2.2 r x⟩
theorem xa_wL {σ : St} {l : Nat → Int64} : XA σ (wL σ l) := ⟨fun _ _ => rfl, fun _ _ => rfl, fun _ _ => rfl⟩
theorem xa_rows {σ : St} {x : Int32} : XA σ (si σ 14 x) := ⟨fun r h => by rw [gi_si, if_neg h], fun _ _ => rfl, fun _ _ => rfl⟩
theorem xa_null {σ : St} {i x : Int32} : XA σ (wa σ 20 i x) := ⟨fun _ _ => rfl, fun r h => by rw [ga_wa, if_neg h], fun _ _ => rfl⟩
theorem xa_num {σ : St} {i : Int32} {x : Int64} : XA σ (wl σ 2 i x) := ⟨fun _ _ => rfl, fun _ _ => rfl, fun r h => by rw [gb_wl, if_neg h]⟩
theorem mb_answers {ρ : St} {x : Int32} : MB ρ (si ρ 12 x) := ⟨fun r _ _ _ h => by rw [gi_si, if_neg h], fun _ _ _ _ _ => rfl, fun _ _ _ => rfl⟩
theorem mb_null {ρ : St} {i x : Int32} : MB ρ (wz ρ 18 i x) := ⟨fun _ _ _ _ _ => rfl, fun r _ _ _ h => by rw [ga_wz, if_neg h], fun _ _ _ => rfl⟩
theorem mb_num {ρ : St} {i : Int32} {x : Int64} : MB ρ (wl ρ 2 i x) := ⟨fun _ _ _ _ _ => rfl, fun _ _ _ _ _ => rfl, fun r _ h => by rw [gb_wl, if_neg h]⟩
theorem XA.sx {σ σ' : St} (h : XA σ σ') : SX σ σ' := ⟨fun r q => h.1 r (fun z => absurd q (by rw [z]; decide)), fun r q => h.2.1 r (fun z => absurd q (by rw [z]; decide)), fun r q => h.2.2 r (fun z => absurd q (by rw [z]; decide))⟩
theorem MB.sm {ρ ρ' : St} (h : MB ρ ρ') : SM ρ ρ' :=
  ⟨fun r q => h.1 r (fun z => absurd q (by rw [z]; decide)) (fun z => absurd q (by rw [z]; decide)) (fun z => absurd q (by rw [z]; decide)) (fun z => absurd q (by rw [z]; decide)), fun r q => h.2.1 r (fun z => absurd q (by rw [z]; decide)) (fun z => absurd q (by rw [z]; decide)) (fun z => absurd q (by rw [z]; decide)) (fun z => absurd q (by rw [z]; decide)), fun r q => h.2.2 r (fun z => absurd q (by rw [z]; decide)) (fun z => absurd q (by rw [z]; decide))⟩
/-- a cell of both answers -/
def Cel (σ ρ : St) (r i : Nat) : Prop := (ga ρ 18 (6 * r + i) = 0 ∧ gb σ 2 (6 * r + i) = gb ρ 2 (6 * r + i)) ∨ (ga ρ 18 (6 * r + i) = 1 ∧ gb σ 2 (6 * r + i) = 0)
def Nbs (σ ρ : St) (r i : Nat) : Prop := ∃ nb : Nat, nb < 2 ^ i ∧ ga σ 20 r = nI nb ∧ ∀ j, j < i → (nb.testBit j = true ↔ ga ρ 18 (6 * r + j) = 1)
def AnsR (σ ρ : St) (k ni : Nat) : Prop := k ≤ 200 ∧ gi σ 14 = nI k ∧ gi ρ 12 = nI k ∧ ∀ r, r < k → (∀ i, i < ni → Cel σ ρ r i) ∧ Nbs σ ρ r ni
/-- i cells of the row k -/
def Prt (σ ρ : St) (k ni i : Nat) : Prop := k < 200 ∧ gi σ 14 = nI k ∧ gi ρ 12 = nI k ∧ (∀ r, r < k → (∀ j, j < ni → Cel σ ρ r j) ∧ Nbs σ ρ r ni) ∧ (∀ j, j < i → Cel σ ρ k j) ∧ Nbs σ ρ k i
theorem cel_same {σ ρ σ' ρ' : St} {r i : Nat} (h1 : gb σ' 2 (6 * r + i) = gb σ 2 (6 * r + i)) (h2 : ga ρ' 18 (6 * r + i) = ga ρ 18 (6 * r + i)) (h3 : gb ρ' 2 (6 * r + i) = gb ρ 2 (6 * r + i)) (h : Cel σ ρ r i) : Cel σ' ρ' r i := by
  unfold Cel
  rw [h1, h2, h3]
  exact h
theorem nbs_same {σ ρ σ' ρ' : St} {r i : Nat} (h1 : ga σ' 20 r = ga σ 20 r) (h2 : ∀ j, j < i → ga ρ' 18 (6 * r + j) = ga ρ 18 (6 * r + j)) (h : Nbs σ ρ r i) : Nbs σ' ρ' r i := by
  obtain ⟨nb, a, b, c⟩ := h
  exact ⟨nb, a, h1.trans b, fun j hj => by rw [h2 j hj]; exact c j hj⟩
theorem prt_mf {σ ρ ρ' : St} {k ni i : Nat} {l : Nat → Int64} (h : Prt σ ρ k ni i) (mf : MF ρ ρ') : Prt (wL σ l) ρ' k ni i := by
  obtain ⟨a1, a2, a3, a4, a5, a6⟩ := h
  have e1 : ga ρ' 18 = ga ρ 18 := mf.2.1 _ (by decide) (by decide) (by decide)
  have e2 : gb ρ' 2 = gb ρ 2 := mf.2.2 _ (by decide)
  refine ⟨a1, a2, (mf.1 _ (by decide) (by decide) (by decide)).trans a3, fun r hr => ⟨fun j hj => cel_same rfl (by rw [e1]) (by rw [e2]) ((a4 r hr).1 j hj), nbs_same rfl (fun j hj => by rw [e1]) (a4 r hr).2⟩, fun j hj => cel_same rfl (by rw [e1]) (by rw [e2]) (a5 j hj), nbs_same rfl (fun j hj => by rw [e1]) a6⟩
theorem sh6 : ∀ i, i < 6 → (1 : Int32) <<< (nI i &&& 31) = nI (2 ^ i) := by decide +kernel
/-- a cell more -/
theorem prt_set {σ ρ : St} {k ni i : Nat} {v x : Int64} {v' : Option Int64} {fl : Int32} (h : Prt σ ρ k ni i) (hi : i < ni) (h6 : ni ≤ 6) (hv : (v' = none ∧ fl = 1 ∧ v = 0) ∨ (v' = some v ∧ fl = 0 ∧ x = v)) :
    Prt (if v' = none then wa (wl σ 2 (nI (6 * k + i)) v) 20 (nI k) (ga σ 20 k ||| (1 <<< (nI i &&& 31))) else wl σ 2 (nI (6 * k + i)) v) (wz (wl ρ 2 (nI (6 * k + i)) x) 18 (nI (6 * k + i)) fl) k ni (i + 1) := by
  obtain ⟨a1, a2, a3, a4, a5, nb, b1, b2, b3⟩ := h
  obtain ⟨σ', hσ'⟩ : ∃ s, s = (if v' = none then wa (wl σ 2 (nI (6 * k + i)) v) 20 (nI k) (ga σ 20 k ||| (1 <<< (nI i &&& 31))) else wl σ 2 (nI (6 * k + i)) v) := ⟨_, rfl⟩
  obtain ⟨ρ', hρ'⟩ : ∃ s, s = wz (wl ρ 2 (nI (6 * k + i)) x) 18 (nI (6 * k + i)) fl := ⟨_, rfl⟩
  rw [← hσ', ← hρ']
  have lt : 6 * k + i < 2 ^ 31 := by omega
  have fl01 : fl = 0 ∨ fl = 1 := by rcases hv with z | z; exact Or.inr z.2.1; exact Or.inl z.2.1
  have n1 : ∀ q, gb σ' 2 q = if q = 6 * k + i then v else gb σ 2 q := by
    intro q
    have : gb (wl σ 2 (nI (6 * k + i)) v) 2 q = if q = 6 * k + i then v else gb σ 2 q := by rw [gb_wl, if_pos rfl, nI_clamp lt, updL_at]
    rw [hσ']
    by_cases c : v' = none
    · rw [if_pos c, gb_wa]; exact this
    · rw [if_neg c]; exact this
  have n2 : ∀ q, ga ρ' 18 q = if q = 6 * k + i then fl else ga ρ 18 q := by
    intro q
    rw [hρ', ga_wz, if_pos rfl, nI_clamp lt, upd_at, nar_b fl01, ga_wl]
  have n3 : ∀ q, gb ρ' 2 q = if q = 6 * k + i then x else gb ρ 2 q := by
    intro q
    rw [hρ', gb_wz, gb_wl, if_pos rfl, nI_clamp lt, updL_at]
  have n4 : ∀ q, ga σ' 20 q = if q = k ∧ v' = none then nI (nb ||| 2 ^ i) else ga σ 20 q := by
    intro q
    rw [hσ']
    by_cases c : v' = none
    · rw [if_pos c, ga_wa, if_pos rfl, nI_clamp (by omega), upd_at, b2, sh6 i (by omega), nI_or]
      by_cases c2 : q = k
      · rw [if_pos c2, if_pos ⟨c2, c⟩]
      · rw [if_neg c2, if_neg (fun z => c2 z.1)]; rfl
    · rw [if_neg c, if_neg (fun z => c z.2)]; rfl
  have n5 : gi σ' 14 = nI k := by
    rw [hσ']
    by_cases c : v' = none
    · rw [if_pos c]; exact a2
    · rw [if_neg c]; exact a2
  have n6 : gi ρ' 12 = nI k := by rw [hρ']; exact a3
  refine ⟨a1, n5, n6, fun r hr => ⟨fun j hj => ?_, ?_⟩, fun j hj => ?_, ?_⟩
  · exact cel_same (by rw [n1, if_neg (by omega)]) (by rw [n2, if_neg (by omega)]) (by rw [n3, if_neg (by omega)]) ((a4 r hr).1 j hj)
  · exact nbs_same (by rw [n4, if_neg (fun z => by omega)]) (fun j hj => by rw [n2, if_neg (by omega)]) (a4 r hr).2
  · by_cases c : j = i
    · subst c
      unfold Cel
      rw [n1, n2, n3, if_pos rfl, if_pos rfl, if_pos rfl]
      rcases hv with ⟨z1, z2, z3⟩ | ⟨z1, z2, z3⟩
      · exact Or.inr ⟨z2, z3⟩
      · exact Or.inl ⟨z2, z3.symm⟩
    · exact cel_same (by rw [n1, if_neg (by omega)]) (by rw [n2, if_neg (by omega)]) (by rw [n3, if_neg (by omega)]) (a5 j (by omega))
  · rcases hv with ⟨z1, z2, z3⟩ | ⟨z1, z2, z3⟩
    · refine ⟨nb ||| 2 ^ i, Nat.or_lt_two_pow (Nat.lt_of_lt_of_le b1 (Nat.pow_le_pow_right (by decide) (by omega))) (Nat.pow_lt_pow_right (by decide) (by omega)), by rw [n4, if_pos ⟨rfl, z1⟩], fun j hj => ?_⟩
      rw [n2, Nat.testBit_or, Bool.or_eq_true, Nat.testBit_two_pow, decide_eq_true_eq]
      by_cases c : j = i
      · rw [if_pos (by omega)]
        exact ⟨fun _ => z2, fun _ => Or.inr c.symm⟩
      · rw [if_neg (by omega)]
        constructor
        · rintro (y | y)
          · exact (b3 j (by omega)).mp y
          · exact absurd y.symm c
        · intro y
          exact Or.inl ((b3 j (by omega)).mpr y)
    · refine ⟨nb, Nat.lt_of_lt_of_le b1 (Nat.pow_le_pow_right (by decide) (by omega)), by rw [n4, if_neg (fun y => by rw [z1] at y; exact absurd y.2 (by simp))]; exact b2, fun j hj => ?_⟩
      rw [n2]
      by_cases c : j = i
      · rw [if_pos (by omega), z2, c, Nat.testBit_lt_two_pow b1]
        exact ⟨fun y => (by cases y), fun y => absurd y (by decide)⟩
      · rw [if_neg (by omega)]
        exact b3 j (by omega)
/-- the items can be worked out, alike on both sides, wherever S holds -/
def GV (N : Nat) (g : Bool) (nt n m ns ng ni no : Nat) (w h : Nat → Nat) (τ : Nat → Tr) (S : St → St → Prop) : Prop :=
  (∀ σ ρ, S σ ρ → Dat σ ρ nt n m ns ng ni no w h τ ∧ gi ρ 14 = 0) ∧
  (∀ σ ρ σ' ρ', S σ ρ → XA σ σ' → MB ρ ρ' → gi ρ' 14 = 0 → S σ' ρ') ∧
  (∀ σ ρ k, S σ ρ → k < ni → ∃ r, Rok (τ (iE ρ k)) r ∧ (∃ l', f_ev N g 130 0 σ (nI (iE ρ k)) 0 = some (vc r, wL σ l') ∧ ∀ v, r = .ok (some v) → l' 0 = v) ∧ ∃ ρ', f_M_workOut N ρ (nI (iE ρ k)) = some ((), ρ') ∧ MF ρ ρ' ∧ Wk ρ' r)
theorem x_set {N : Nat} {σ : St} {k i : Nat} {s : Int32} {v : Int64} (hk : k < 200) (hi : i < 6) (hr : gi σ 14 = nI k) : f_A_setItem N σ (nI i) s v = some ((), if s = 0 then wa (wl σ 2 (nI (6 * k + i)) 0) 20 (nI k) (ga σ 20 k ||| (1 <<< (nI i &&& 31))) else wl σ 2 (nI (6 * k + i)) v) := by
  unfold f_A_setItem f_A_setItem_22
  rw [hr, nI_6]
  simp only [ckb_nI (show 6 * k + i < 1200 by omega) (show 1200 < 2 ^ 31 by decide), nm_eq]
  by_cases c : s = 0
  · rw [if_pos c, if_pos c, if_pos c, show gi (wl σ 2 (nI (6 * k + i)) 0) 14 = nI k from hr, ckb_nI hk (by decide), ckb_nI hk (by decide), nI_clamp (by omega)]
    rfl
  · rw [if_neg c, if_neg c, if_neg c]
theorem g_loop (N : Nat) (hN : 200 < N) (g : Bool) {nt n m ns ng ni no k : Nat} {w h : Nat → Nat} {τ : Nat → Tr} {S : St → St → Prop} (H : GV N g nt n m ns ng ni no w h τ S) : ∀ (q i fu fu' : Nat) (σ ρ : St), S σ ρ → Prt σ ρ k ni i → i + q = ni → q < fu → q < fu' →
    ∃ c σ' ρ', f_R_giveRow_22 N g fu σ (nI i) = some (c, σ') ∧ f_M_giveRow_19 N fu' ρ (nI i) = some ((), ρ') ∧ XA σ σ' ∧ MB ρ ρ' ∧ ((c = 0 ∧ gi ρ' 14 = 0 ∧ AnsR σ' ρ' (k + 1) ni) ∨ (¬ c = 0 ∧ gi ρ' 14 = c)) := by
  obtain ⟨H1, H2, H3⟩ := H
  intro q
  induction q with
  | zero =>
    intro i fu fu' σ ρ hS hP hi hfu hfu'
    obtain ⟨fu, rfl⟩ : ∃ q, fu = q + 1 := ⟨fu - 1, by omega⟩
    obtain ⟨fu', rfl⟩ : ∃ q, fu' = q + 1 := ⟨fu' - 1, by omega⟩
    obtain ⟨d, hw⟩ := H1 σ ρ hS
    have i6 := d.2.2.2.2.1.1
    obtain ⟨a1, a2, a3, a4, a5, a6⟩ := hP
    have e : i = ni := by omega
    subst e
    have x0 : f_R_giveRow_22 N g (fu + 1) σ (nI i) = some (0, si σ 14 (nI (k + 1))) := by
      show f_R_giveRow_22_b N g (f_R_giveRow_22 N g fu) σ (nI i) = _
      unfold f_R_giveRow_22_b f_A_endRow
      rw [d.2.2.2.2.1.2.1, if_pos (nI_le (Nat.le_refl _) (by omega)), nm_eq, bd_eq, a2, nI_1]
    have m0 : f_M_giveRow_19 N (fu' + 1) ρ (nI i) = some ((), si ρ 12 (nI (k + 1))) := by
      show f_M_giveRow_19_b N (f_M_giveRow_19 N fu') ρ (nI i) = _
      unfold f_M_giveRow_19_b
      rw [d.2.2.2.2.1.2.2.1, if_pos (nI_le (Nat.le_refl _) (by omega)), nm_eq, a3, nI_1]
    refine ⟨0, _, _, x0, m0, xa_rows, mb_answers, Or.inl ⟨rfl, hw, by omega, rfl, rfl, fun r hr => ?_⟩⟩
    by_cases c : r = k
    · subst c; exact ⟨a5, a6⟩
    · exact a4 r (by omega)
  | succ q ih =>
    intro i fu fu' σ ρ hS hP hi hfu hfu'
    obtain ⟨fu, rfl⟩ : ∃ q, fu = q + 1 := ⟨fu - 1, by omega⟩
    obtain ⟨fu', rfl⟩ : ∃ q, fu' = q + 1 := ⟨fu' - 1, by omega⟩
    obtain ⟨d, hw⟩ := H1 σ ρ hS
    have i6 := d.2.2.2.2.1.1
    obtain ⟨k1, k2, k3, -⟩ := iE_at d (show i < ni by omega)
    obtain ⟨r, ok, ⟨l, x1, x2⟩, ρ1, m1, m2, m3⟩ := H3 σ ρ i hS (by omega)
    have nt' := (iE_at d (show i < ni by omega)).2.2.2
    have xs : f_R_giveRow_22 N g (fu + 1) σ (nI i) = if 0 ≤ vc r then (bd (f_A_setItem N (wL σ l) (nI i) (vc r) (l 0)) fun _ s10 => f_R_giveRow_22 N g fu s10 (nI (i + 1))) else some (vc r, wL σ l) := by
      show f_R_giveRow_22_b N g (f_R_giveRow_22 N g fu) σ (nI i) = _
      unfold f_R_giveRow_22_b
      rw [d.2.2.2.2.1.2.1, if_neg (nI_ge (by omega) (by omega)), ckb_nI (show i < 6 by omega) (by decide), nI_clamp (show i < 2 ^ 31 by omega), k3, x1, bd_eq, nI_1]
      rfl
    have Pm : Prt (wL σ l) ρ1 k ni i := prt_mf hP m2
    have a1 := Pm.1
    have a2 := Pm.2.1
    have a3 := Pm.2.2.1
    have z0 : ((0 : Int32)).toNatClampNeg = 0 := by decide
    have ms : f_M_giveRow_19 N (fu' + 1) ρ (nI i) = if gi ρ1 14 = 0 then f_M_giveRow_19 N fu' (wz (wl ρ1 2 (nI (6 * k + i)) (gb ρ1 6 0)) 18 (nI (6 * k + i)) (ga ρ1 26 0)) (nI (i + 1)) else some ((), ρ1) := by
      show f_M_giveRow_19_b N (f_M_giveRow_19 N fu') ρ (nI i) = _
      unfold f_M_giveRow_19_b
      rw [d.2.2.2.2.1.2.2.1, if_neg (nI_ge (by omega) (by omega)), ckb_nI (show i < 6 by omega) (by decide), nI_clamp (show i < 2 ^ 31 by omega), k2, m1, bd_eq, nI_1, z0, a3, nI_6']
      simp only [show ∀ k : Option (Unit × St), ckb (0 : Int32) 64 k = k from fun k => ckb_nI (j := 0) (by decide) (by decide), ckb_nI (show 6 * k + i < 1206 by omega) (show 1206 < 2 ^ 31 by decide), nm_eq]
      rw [show gi (wl ρ1 2 (nI (6 * k + i)) (gb ρ1 6 0)) 12 = nI k from a3, nI_6', ckb_nI (show 6 * k + i < 1206 by omega) (show 1206 < 2 ^ 31 by decide)]
      rfl
    rw [xs, ms]
    cases r with
    | error er =>
      have her := ok.1 er rfl
      have m3 : gi ρ1 14 = er := m3
      have e0 : ¬ er = 0 := by rcases her with z | z <;> rw [z] <;> decide
      rw [if_neg (show ¬ (0 : Int32) ≤ vc (.error er) from (err_neg her).1), if_neg (show ¬ gi ρ1 14 = 0 by rw [m3]; exact e0)]
      exact ⟨_, _, _, rfl, rfl, xa_wL, m2.mb, Or.inr ⟨e0, m3⟩⟩
    | ok v =>
      obtain ⟨w1, gv⟩ := m3
      rw [if_pos vc_ok, if_pos w1, x_set a1 (by omega) a2, bd_eq]
      have hv : (v = none ∧ ga ρ1 26 0 = 1 ∧ (0 : Int64) = 0) ∨ (v = some (l 0) ∧ ga ρ1 26 0 = 0 ∧ gb ρ1 6 0 = l 0) := by
        cases v with
        | none => exact Or.inl ⟨rfl, gv, rfl⟩
        | some z =>
          have := x2 z rfl
          rw [this]
          exact Or.inr ⟨rfl, gv.1, gv.2⟩
      have key : ∀ σ2, σ2 = (if vc (.ok v) = 0 then wa (wl (wL σ l) 2 (nI (6 * k + i)) 0) 20 (nI k) (ga (wL σ l) 20 k ||| (1 <<< (nI i &&& 31))) else wl (wL σ l) 2 (nI (6 * k + i)) (l 0)) → Prt σ2 (wz (wl ρ1 2 (nI (6 * k + i)) (gb ρ1 6 0)) 18 (nI (6 * k + i)) (ga ρ1 26 0)) k ni (i + 1) ∧ XA σ σ2 := by
        intro σ2 h2
        cases v with
        | none =>
          rw [if_pos (show vc (.ok none) = 0 from rfl)] at h2
          have := prt_set (v := 0) (x := gb ρ1 6 0) (v' := none) (fl := ga ρ1 26 0) Pm (show i < ni by omega) i6 (Or.inl ⟨rfl, (by rcases hv with z | z; exact z.2.1; cases z.1), rfl⟩)
          rw [if_pos rfl] at this
          rw [h2]
          exact ⟨this, (xa_wL.trans xa_num).trans xa_null⟩
        | some z =>
          rw [if_neg (show ¬ vc (.ok (some z)) = 0 from (by decide : ¬ (1 : Int32) = 0))] at h2
          have := prt_set (v := l 0) (x := gb ρ1 6 0) (v' := some (l 0)) (fl := ga ρ1 26 0) Pm (show i < ni by omega) i6 (Or.inr ⟨rfl, (by rcases hv with z | z; cases z.1; exact z.2.1), (by rcases hv with z | z; cases z.1; exact z.2.2)⟩)
          rw [if_neg (by simp)] at this
          rw [h2]
          exact ⟨this, xa_wL.trans xa_num⟩
      obtain ⟨σ2, hσ2⟩ : ∃ s, s = (if vc (.ok v) = 0 then wa (wl (wL σ l) 2 (nI (6 * k + i)) 0) 20 (nI k) (ga (wL σ l) 20 k ||| (1 <<< (nI i &&& 31))) else wl (wL σ l) 2 (nI (6 * k + i)) (l 0)) := ⟨_, rfl⟩
      rw [← hσ2]
      obtain ⟨P2, XA2⟩ := key σ2 hσ2
      have MB2 : MB ρ (wz (wl ρ1 2 (nI (6 * k + i)) (gb ρ1 6 0)) 18 (nI (6 * k + i)) (ga ρ1 26 0)) := (m2.mb.trans mb_num).trans mb_null
      obtain ⟨c, σ', ρ', z1, z2, z3, z4, z5⟩ := ih (i + 1) fu fu' σ2 _ (H2 σ ρ σ2 _ hS XA2 MB2 w1) P2 (by omega) (by omega) (by omega)
      exact ⟨c, σ', ρ', z1, z2, XA2.trans z3, MB2.trans z4, z5⟩
/-- a row is given, or the same fault -/
theorem g_row (N : Nat) (hN : 200 < N) (g : Bool) {nt n m ns ng ni no k : Nat} {w h : Nat → Nat} {τ : Nat → Tr} {S : St → St → Prop} (H : GV N g nt n m ns ng ni no w h τ S) (σ ρ : St) (hS : S σ ρ) (hA : AnsR σ ρ k ni) :
    ∃ c σ' ρ', f_R_giveRow N g σ = some (c, σ') ∧ f_M_giveRow N ρ = some ((), ρ') ∧ XA σ σ' ∧ MB ρ ρ' ∧ ((c = 0 ∧ gi ρ' 14 = 0 ∧ AnsR σ' ρ' (k + 1) ni) ∨ (¬ c = 0 ∧ gi ρ' 14 = c)) := by
  obtain ⟨d, hw⟩ := H.1 σ ρ hS
  have i6 := d.2.2.2.2.1.1
  obtain ⟨a1, a2, a3, a4⟩ := hA
  unfold f_R_giveRow f_M_giveRow f_A_isFull f_A_startRow
  rw [a2, a3]
  by_cases c : k < 200
  · rw [if_pos (show nI k < (200 : Int32) from nI_lt (b := 200) c (by decide)), bd_eq, if_pos rfl, a2, ckb_nI c (by decide), nm_eq, bd_eq, if_neg (show ¬ nI k = (200 : Int32) from fun z => by have := (nI_eq (b := 200) (by omega) (by decide)).mp z; omega)]
    have P : Prt (wa σ 20 (nI k) 0) ρ k ni 0 := by
      refine ⟨c, a2, a3, fun r hr => ⟨(a4 r hr).1, nbs_same (by rw [ga_wa, if_pos rfl]; exact updl (by omega) (by omega)) (fun _ _ => rfl) (a4 r hr).2⟩, fun j hj => by omega, 0, by decide, by rw [ga_wa, if_pos rfl]; exact updn (by omega), fun j hj => by omega⟩
    obtain ⟨cc, σ', ρ', z1, z2, z3, z4, z5⟩ := g_loop N hN g H ni 0 N N (wa σ 20 (nI k) 0) ρ (H.2.1 σ ρ _ ρ hS xa_null MB.rfl hw) P (by omega) (by omega) (by omega)
    exact ⟨cc, σ', ρ', z1, z2, xa_null.trans z3, z4, z5⟩
  · have e : k = 200 := by omega
    rw [if_neg (show ¬ nI k < (200 : Int32) from nI_nlt (b := 200) (by omega) (by omega)), bd_eq, if_neg (by decide), if_pos (show nI k = (200 : Int32) by rw [e]; rfl), nm_eq]
    exact ⟨-15, σ, _, rfl, rfl, XA.rfl, mf_wrong.mb, Or.inr ⟨by decide, rfl⟩⟩

