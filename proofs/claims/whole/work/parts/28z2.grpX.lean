/-! the class's groups: places, keys, a new group (own rows) -/
def pkv (f : Nat → Int32) : Int32 := (((0 : Int32) ||| ((f 0 + 1) <<< ((4 * nI 0) &&& 31))) ||| ((f 1 + 1) <<< ((4 * nI 1) &&& 31))) ||| ((f 2 + 1) <<< ((4 * nI 2) &&& 31))
def pk3 (a b c : Nat) : Int32 := (((0 : Int32) ||| ((nI a) <<< ((4 * nI 0) &&& 31))) ||| ((nI b) <<< ((4 * nI 1) &&& 31))) ||| ((nI c) <<< ((4 * nI 2) &&& 31))
theorem pk_dec : ∀ a, a < 9 → ∀ b, b < 9 → ∀ c, c < 9 → ((pk3 a b c >>> ((4 * nI 0) &&& 31)) &&& 15 = nI a) ∧ ((pk3 a b c >>> ((4 * nI 1) &&& 31)) &&& 15 = nI b) ∧ ((pk3 a b c >>> ((4 * nI 2) &&& 31)) &&& 15 = nI c) := by decide +kernel
/-- places that can be packed -/
def Pos3 (f : Nat → Int32) : Prop := ∀ i, i < 3 → ∃ r, r ≤ 8 ∧ f i = nI r - 1
theorem unpk {f : Nat → Int32} (h : Pos3 f) : ∀ i, i < 3 → ((pkv f >>> ((4 * nI i) &&& 31)) &&& 15) - 1 = f i := by
  obtain ⟨a, a1, a2⟩ := h 0 (by decide)
  obtain ⟨b, b1, b2⟩ := h 1 (by decide)
  obtain ⟨c, c1, c2⟩ := h 2 (by decide)
  have ad : ∀ x : Int32, x - 1 + 1 = x := fun x => Int32.sub_add_cancel x 1
  have e : pkv f = pk3 a b c := by
    unfold pkv pk3
    rw [a2, b2, c2, ad, ad, ad]
  obtain ⟨z1, z2, z3⟩ := pk_dec a (by omega) b (by omega) c (by omega)
  rw [← e] at z1 z2 z3
  intro i hi
  have : i = 0 ∨ i = 1 ∨ i = 2 := by omega
  rcases this with rfl | rfl | rfl
  · rw [z1, a2]
  · rw [z2, b2]
  · rw [z3, c2]
theorem x_pack (N : Nat) (hN : 100 < N) (σ : St) : f_G_pack N σ = some (pkv (ga σ 23), σ) := by
  obtain ⟨M, rfl⟩ : ∃ q, N = q + 4 := ⟨N - 4, by omega⟩
  unfold f_G_pack
  show f_G_pack_4_b (M + 4) (f_G_pack_4 (M + 4) (M + 3)) σ 0 (nI 0) = _
  unfold f_G_pack_4_b
  rw [if_neg (show ¬ (3 : Int32) ≤ nI 0 by decide), ckb_nI (show 0 < 3 by decide) (by decide), nI_1]
  show f_G_pack_4_b (M + 4) (f_G_pack_4 (M + 4) (M + 2)) σ _ (nI 1) = _
  unfold f_G_pack_4_b
  rw [if_neg (show ¬ (3 : Int32) ≤ nI 1 by decide), ckb_nI (show 1 < 3 by decide) (by decide), nI_1]
  show f_G_pack_4_b (M + 4) (f_G_pack_4 (M + 4) (M + 1)) σ _ (nI 2) = _
  unfold f_G_pack_4_b
  rw [if_neg (show ¬ (3 : Int32) ≤ nI 2 by decide), ckb_nI (show 2 < 3 by decide) (by decide), nI_1]
  show f_G_pack_4_b (M + 4) (f_G_pack_4 (M + 4) M) σ _ (nI 3) = _
  unfold f_G_pack_4_b
  rw [if_pos (show (3 : Int32) ≤ nI 3 by decide), nI_clamp (show 0 < 2 ^ 31 by decide), nI_clamp (show 1 < 2 ^ 31 by decide), nI_clamp (show 2 < 2 ^ 31 by decide)]
  rfl
/-- what the class's groups touch -/
def XG (σ σ' : St) : Prop := (∀ r, r ≠ 18 → r ≠ 19 → r ≠ 20 → gi σ' r = gi σ r) ∧ (∀ r, r ≠ 24 → r ≠ 25 → r ≠ 26 → r ≠ 27 → r ≠ 28 → r ≠ 29 → r ≠ 30 → ga σ' r = ga σ r) ∧ (∀ r, r ≠ 3 → r ≠ 4 → r ≠ 5 → gb σ' r = gb σ r)
theorem XG.rfl {σ : St} : XG σ σ := ⟨fun _ _ _ _ => Eq.refl _, fun _ _ _ _ _ _ _ _ => Eq.refl _, fun _ _ _ _ => Eq.refl _⟩
theorem XG.trans {a b c : St} (h : XG a b) (k : XG b c) : XG a c := ⟨fun r x y z => (k.1 r x y z).trans (h.1 r x y z), fun r a1 a2 a3 a4 a5 a6 a7 => (k.2.1 r a1 a2 a3 a4 a5 a6 a7).trans (h.2.1 r a1 a2 a3 a4 a5 a6 a7), fun r x y z => (k.2.2 r x y z).trans (h.2.2 r x y z)⟩
theorem xg_wL {σ : St} {l : Nat → Int64} : XG σ (wL σ l) := ⟨fun _ _ _ _ => rfl, fun _ _ _ _ _ _ _ _ => rfl, fun _ _ _ _ => rfl⟩
theorem xg_gc {σ : St} {x : Int32} : XG σ (si σ 18 x) := ⟨fun r h _ _ => by rw [gi_si, if_neg h], fun _ _ _ _ _ _ _ _ => rfl, fun _ _ _ _ => rfl⟩
theorem xg_rc {σ : St} {x : Int32} : XG σ (si σ 19 x) := ⟨fun r _ h _ => by rw [gi_si, if_neg h], fun _ _ _ _ _ _ _ _ => rfl, fun _ _ _ _ => rfl⟩
theorem xg_cu {σ : St} {x : Int32} : XG σ (si σ 20 x) := ⟨fun r _ _ h => by rw [gi_si, if_neg h], fun _ _ _ _ _ _ _ _ => rfl, fun _ _ _ _ => rfl⟩
theorem xg_kn {σ : St} {i x : Int32} : XG σ (wa σ 24 i x) := ⟨fun _ _ _ _ => rfl, fun r h _ _ _ _ _ _ => by rw [ga_wa, if_neg h], fun _ _ _ _ => rfl⟩
theorem xg_fr {σ : St} {i x : Int32} : XG σ (wa σ 25 i x) := ⟨fun _ _ _ _ => rfl, fun r _ h _ _ _ _ _ => by rw [ga_wa, if_neg h], fun _ _ _ _ => rfl⟩
theorem xg_lr {σ : St} {i x : Int32} : XG σ (wa σ 26 i x) := ⟨fun _ _ _ _ => rfl, fun r _ _ h _ _ _ _ => by rw [ga_wa, if_neg h], fun _ _ _ _ => rfl⟩
theorem xg_nr {σ : St} {i x : Int32} : XG σ (wa σ 27 i x) := ⟨fun _ _ _ _ => rfl, fun r _ _ _ h _ _ _ => by rw [ga_wa, if_neg h], fun _ _ _ _ => rfl⟩
theorem xg_ra {σ : St} {i x : Int32} : XG σ (wa σ 28 i x) := ⟨fun _ _ _ _ => rfl, fun r _ _ _ _ h _ _ => by rw [ga_wa, if_neg h], fun _ _ _ _ => rfl⟩
theorem xg_cb {σ : St} {i x : Int32} : XG σ (wa σ 29 i x) := ⟨fun _ _ _ _ => rfl, fun r _ _ _ _ _ h _ => by rw [ga_wa, if_neg h], fun _ _ _ _ => rfl⟩
theorem xg_co {σ : St} {i x : Int32} : XG σ (wa σ 30 i x) := ⟨fun _ _ _ _ => rfl, fun r _ _ _ _ _ _ h => by rw [ga_wa, if_neg h], fun _ _ _ _ => rfl⟩
theorem xg_ke {σ : St} {i : Int32} {x : Int64} : XG σ (wl σ 3 i x) := ⟨fun _ _ _ _ => rfl, fun _ _ _ _ _ _ _ _ => rfl, fun r h _ _ => by rw [gb_wl, if_neg h]⟩
theorem xg_nu {σ : St} {i : Int32} {x : Int64} : XG σ (wl σ 4 i x) := ⟨fun _ _ _ _ => rfl, fun _ _ _ _ _ _ _ _ => rfl, fun r _ h _ => by rw [gb_wl, if_neg h]⟩
theorem xg_to {σ : St} {i : Int32} {x : Int64} : XG σ (wl σ 5 i x) := ⟨fun _ _ _ _ => rfl, fun _ _ _ _ _ _ _ _ => rfl, fun r _ _ h => by rw [gb_wl, if_neg h]⟩
theorem XG.sx {σ σ' : St} (h : XG σ σ') : SX σ σ' :=
  ⟨fun r q => h.1 r (fun z => absurd q (by rw [z]; decide)) (fun z => absurd q (by rw [z]; decide)) (fun z => absurd q (by rw [z]; decide)), fun r q => h.2.1 r (fun z => absurd q (by rw [z]; decide)) (fun z => absurd q (by rw [z]; decide)) (fun z => absurd q (by rw [z]; decide)) (fun z => absurd q (by rw [z]; decide)) (fun z => absurd q (by rw [z]; decide)) (fun z => absurd q (by rw [z]; decide)) (fun z => absurd q (by rw [z]; decide)), fun r q => h.2.2 r (fun z => absurd q (by rw [z]; decide)) (fun z => absurd q (by rw [z]; decide)) (fun z => absurd q (by rw [z]; decide))⟩
theorem nI_8 {p i : Nat} : nI p * 8 + nI i = nI (8 * p + i) := by rw [show (8 : Int32) = nI 8 from rfl, pk_mul, nI_add, Nat.mul_comm]
theorem nI_8' {p i : Nat} : 8 * nI p + nI i = nI (8 * p + i) := by rw [show (8 : Int32) = nI 8 from rfl, pk_mul, nI_add]
theorem nI_4 {p i : Nat} : nI p * 4 + nI i = nI (4 * p + i) := by rw [show (4 : Int32) = nI 4 from rfl, pk_mul, nI_add, Nat.mul_comm]
theorem nI_4' {p i : Nat} : 4 * nI p + nI i = nI (4 * p + i) := by rw [show (4 : Int32) = nI 4 from rfl, pk_mul, nI_add]
theorem x_open (N : Nat) (hN : 100 < N) {σ : St} {q : Nat} (hq : q < 512) : ∃ σ', f_G_openGroup N σ (nI q) = some ((), σ') ∧ XG σ σ' ∧ gi σ' 18 = nI (q + 1) ∧ gi σ' 19 = gi σ 19 ∧ ga σ' 25 = upd (ga σ 25) q (-1) ∧ (∀ r, r ≠ 25 → r ≠ 30 → ga σ' r = ga σ r) ∧ (∀ r, r ≠ 5 → gb σ' r = gb σ r) ∧ (∀ z, ga σ' 30 z = if 8 * q ≤ z ∧ z < 8 * q + 8 then 0 else ga σ 30 z) ∧ (∀ z, gb σ' 5 z = if 8 * q ≤ z ∧ z < 8 * q + 8 then 0 else gb σ 5 z) := by
  obtain ⟨σ0, hσ0⟩ : ∃ s, s = wa σ 25 (nI q) (-1) := ⟨_, rfl⟩
  have key : ∀ (d i fu : Nat) (s : St), i + d = 8 → d < fu → XG σ0 s → gi s = gi σ0 → (∀ r, r ≠ 30 → ga s r = ga σ0 r) → (∀ r, r ≠ 5 → gb s r = gb σ0 r) → (∀ z, ga s 30 z = if 8 * q ≤ z ∧ z < 8 * q + i then 0 else ga σ0 30 z) → (∀ z, gb s 5 z = if 8 * q ≤ z ∧ z < 8 * q + i then 0 else gb σ0 5 z) →
      ∃ s1, f_G_openGroup_9 N fu s (nI q) (nI i) = some ((), si s1 18 (nI (q + 1))) ∧ XG σ0 s1 ∧ gi s1 = gi σ0 ∧ (∀ r, r ≠ 30 → ga s1 r = ga σ0 r) ∧ (∀ r, r ≠ 5 → gb s1 r = gb σ0 r) ∧ (∀ z, ga s1 30 z = if 8 * q ≤ z ∧ z < 8 * q + 8 then 0 else ga σ0 30 z) ∧ (∀ z, gb s1 5 z = if 8 * q ≤ z ∧ z < 8 * q + 8 then 0 else gb σ0 5 z) := by
    intro d
    induction d with
    | zero =>
      intro i fu s hi hfu xg g1 g2 g3 g4 g5
      obtain ⟨fu, rfl⟩ : ∃ q, fu = q + 1 := ⟨fu - 1, by omega⟩
      have e : i = 8 := by omega
      subst e
      refine ⟨s, ?_, xg, g1, g2, g3, g4, g5⟩
      show f_G_openGroup_9_b N (f_G_openGroup_9 N fu) s (nI q) (nI 8) = _
      unfold f_G_openGroup_9_b
      rw [if_pos (show (8 : Int32) ≤ nI 8 by decide), nm_eq, nI_1]
    | succ d ih =>
      intro i fu s hi hfu xg g1 g2 g3 g4 g5
      obtain ⟨fu, rfl⟩ : ∃ q, fu = q + 1 := ⟨fu - 1, by omega⟩
      have lt : 8 * q + i < 2 ^ 31 := by omega
      have st : f_G_openGroup_9 N (fu + 1) s (nI q) (nI i) = f_G_openGroup_9 N fu (wl (wa s 30 (nI (8 * q + i)) 0) 5 (nI (8 * q + i)) 0) (nI q) (nI (i + 1)) := by
        show f_G_openGroup_9_b N (f_G_openGroup_9 N fu) s (nI q) (nI i) = _
        unfold f_G_openGroup_9_b
        rw [if_neg (show ¬ (8 : Int32) ≤ nI i from nI_ge (b := 8) (by omega) (by decide)), nI_8, ckb_nI (show 8 * q + i < 4096 by omega) (by decide), nm_eq, ckb_nI (show 8 * q + i < 4096 by omega) (by decide), nm_eq, nI_1]
      rw [st]
      refine ih (i + 1) fu _ (by omega) (by omega) ((xg.trans xg_co).trans xg_to) g1 (fun r hr => ?_) (fun r hr => ?_) (fun z => ?_) (fun z => ?_)
      · rw [ga_wl, ga_wa, if_neg hr]; exact g2 r hr
      · rw [gb_wl, if_neg hr]; exact g3 r hr
      · rw [ga_wl, ga_wa, if_pos rfl, nI_clamp lt, upd_at]
        by_cases c : z = 8 * q + i
        · rw [if_pos c, if_pos (by omega)]
        · rw [if_neg c, g4]
          by_cases c2 : 8 * q ≤ z ∧ z < 8 * q + i
          · rw [if_pos c2, if_pos (by omega)]
          · rw [if_neg c2, if_neg (by omega)]
      · rw [gb_wl, if_pos rfl, nI_clamp lt, updL_at]
        by_cases c : z = 8 * q + i
        · rw [if_pos c, if_pos (by omega)]
        · rw [if_neg c, gb_wa, g5]
          by_cases c2 : 8 * q ≤ z ∧ z < 8 * q + i
          · rw [if_pos c2, if_pos (by omega)]
          · rw [if_neg c2, if_neg (by omega)]
  obtain ⟨s1, z1, z2, z3, z4, z5, z6, z7⟩ := key 8 0 N σ0 (by omega) (by omega) XG.rfl rfl (fun _ _ => rfl) (fun _ _ => rfl) (fun z => by rw [if_neg (by omega)]) (fun z => by rw [if_neg (by omega)])
  refine ⟨si s1 18 (nI (q + 1)), ?_, ?_, rfl, ?_, ?_, ?_, ?_, ?_, ?_⟩
  · unfold f_G_openGroup
    rw [ckb_nI hq (by decide), nm_eq, ← hσ0]
    exact z1
  · rw [hσ0] at z2
    exact (xg_fr.trans z2).trans xg_gc
  · show gi s1 19 = _
    rw [z3, hσ0]; rfl
  · show ga s1 25 = _
    rw [z4 _ (by decide), hσ0, ga_wa, if_pos rfl, nI_clamp (by omega)]
  · intro r h1 h2
    show ga s1 r = _
    rw [z4 r h2, hσ0, ga_wa, if_neg h1]
  · intro r h1
    show gb s1 r = _
    rw [z5 r h1, hσ0]; rfl
  · intro z
    show ga s1 30 z = _
    rw [z6, hσ0]; rfl
  · intro z
    show gb s1 5 z = _
    rw [z7, hσ0]; rfl
/-- keys, as the class keeps them -/
def KX (ng : Nat) (σ : St) (q : Nat) (ky : Nat → Option Int64) : Prop := (∃ nb : Nat, nb < 2 ^ ng ∧ ga σ 24 q = nI nb ∧ ∀ i, i < ng → (nb.testBit i = true ↔ ky i = none)) ∧ ∀ i, i < ng → gb σ 3 (4 * q + i) = (ky i).getD 0
theorem kx_same {ng : Nat} {σ : St} {q p : Nat} {a b : Nat → Option Int64} (h4 : ng ≤ 4) (h : KX ng σ q a) (k : KX ng σ p b) : (ga σ 24 q = ga σ 24 p ∧ ∀ i, i < ng → (a i).getD 0 = (b i).getD 0) ↔ ∀ i, i < ng → a i = b i := by
  obtain ⟨⟨x, x1, x2, x3⟩, -⟩ := h
  obtain ⟨⟨y, y1, y2, y3⟩, -⟩ := k
  have x16 : x < 16 := Nat.lt_of_lt_of_le x1 (Nat.pow_le_pow_right (n := 2) (by decide) h4)
  have y16 : y < 16 := Nat.lt_of_lt_of_le y1 (Nat.pow_le_pow_right (n := 2) (by decide) h4)
  rw [x2, y2, nI_eq (by omega) (by omega)]
  constructor
  · rintro ⟨rfl, z⟩ i hi'
    have := z i hi'
    by_cases c : x.testBit i = true
    · rw [(x3 i hi').mp c, (y3 i hi').mp c]
    · have n1 : a i ≠ none := fun u => c ((x3 i hi').mpr u)
      have n2 : b i ≠ none := fun u => c ((y3 i hi').mpr u)
      cases q1 : a i with
      | none => exact absurd q1 n1
      | some u =>
        cases q2 : b i with
        | none => exact absurd q2 n2
        | some v => rw [q1, q2] at this; simp only [Option.getD_some] at this; rw [this]
  · intro z
    refine ⟨Nat.eq_of_testBit_eq (fun j => ?_), fun j hj => by rw [z j hj]⟩
    by_cases c : j < ng
    · have e1 := x3 j c
      have e2 := y3 j c
      rw [z j c] at e1
      cases q1 : x.testBit j <;> cases q2 : y.testBit j
      · rfl
      · rw [e1.mpr (e2.mp q2)] at q1; cases q1
      · rw [e2.mpr (e1.mp q1)] at q2; cases q2
      · rfl
    · rw [Nat.testBit_lt_two_pow (Nat.lt_of_lt_of_le x1 (Nat.pow_le_pow_right (by decide) (by omega))), Nat.testBit_lt_two_pow (Nat.lt_of_lt_of_le y1 (Nat.pow_le_pow_right (by decide) (by omega)))]
/-- q is the group of the keys kk, or the next -/
def GrpAt (ng G : Nat) (ky : Nat → Nat → Option Int64) (kk : Nat → Option Int64) (q : Nat) : Prop := q ≤ G ∧ (∀ p, p < q → ¬ ∀ i, i < ng → ky p i = kk i) ∧ (q < G → ∀ i, i < ng → ky q i = kk i)
theorem x_keys (N : Nat) (hN : 600 < N) {σ : St} {ng G : Nat} {ky : Nat → Nat → Option Int64} {kk : Nat → Option Int64} (h4 : ng ≤ 4) (hG : G < 512) (hg : gi σ 18 = nI G) (hk : ∀ q, q < G → KX ng σ q (ky q)) (ho : KX ng σ G kk) : ∃ q, f_G_groupOfKeys N σ (nI ng) = some (nI q, σ) ∧ GrpAt ng G ky kk q := by
  have inner : ∀ (k2 : St → Int32 → Int32 → Option (Int32 × St)) (q : Nat), q < G → ∀ (d i fu : Nat) (s : Int32), i + d = ng → d < fu → (s = 0 ∨ s = 1) → ∃ r, (r = 0 ∨ r = 1) ∧ f_G_groupOfKeys_37 N k2 fu σ (nI ng) (nI q) s (nI i) = f_G_groupOfKeys_88 N k2 σ (nI ng) (nI q) r ∧ (r = 1 ↔ s = 1 ∧ ∀ j, i ≤ j → j < ng → (ky q j).getD 0 = (kk j).getD 0) := by
    intro k2 q hq d
    induction d with
    | zero =>
      intro i fu s hd hfu hs
      obtain ⟨fu, rfl⟩ : ∃ q, fu = q + 1 := ⟨fu - 1, by omega⟩
      have e0 : f_G_groupOfKeys_37 N k2 (fu + 1) σ (nI ng) (nI q) s (nI i) = f_G_groupOfKeys_37_b N k2 (f_G_groupOfKeys_37 N k2 fu) σ (nI ng) (nI q) s (nI i) := rfl
      refine ⟨s, hs, ?_, fun z => ⟨z, fun j h1 h2 => by omega⟩, fun z => z.1⟩
      rw [e0]
      unfold f_G_groupOfKeys_37_b
      rw [if_pos (nI_le (show ng ≤ i by omega) (by omega))]
      split <;> rfl
    | succ d ih =>
      intro i fu s hd hfu hs
      obtain ⟨fu, rfl⟩ : ∃ q, fu = q + 1 := ⟨fu - 1, by omega⟩
      have e0 : f_G_groupOfKeys_37 N k2 (fu + 1) σ (nI ng) (nI q) s (nI i) = f_G_groupOfKeys_37_b N k2 (f_G_groupOfKeys_37 N k2 fu) σ (nI ng) (nI q) s (nI i) := rfl
      rw [e0]
      unfold f_G_groupOfKeys_37_b
      by_cases c : s = 0
      · rw [if_pos c]
        exact ⟨s, hs, rfl, fun z => absurd z (by rw [c]; decide), fun z => z.1⟩
      · have s1 : s = 1 := by rcases hs with z | z; exact absurd z c; exact z
        rw [if_neg c, if_neg (nI_ge (show i < ng by omega) (by omega)), hg, nI_4, nI_4, ckb_nI (show 4 * q + i < 2048 by omega) (by decide), ckb_nI (show 4 * G + i < 2048 by omega) (by decide), nI_clamp (show 4 * q + i < 2 ^ 31 by omega), nI_clamp (show 4 * G + i < 2 ^ 31 by omega), (hk q hq).2 i (by omega), ho.2 i (by omega), nI_1]
        simp only [cmp_eq]
        by_cases c2 : (ky q i).getD 0 = (kk i).getD 0
        · rw [if_pos c2]
          obtain ⟨r, z1, z2, z3⟩ := ih (i + 1) fu 1 (by omega) (by omega) (Or.inr rfl)
          refine ⟨r, z1, z2, z3.trans ⟨fun z => ⟨s1, fun j h1 h2 => ?_⟩, fun z => ⟨rfl, fun j h1 h2 => z.2 j (by omega) h2⟩⟩⟩
          by_cases e : j = i
          · subst e; exact c2
          · exact z.2 j (by omega) h2
        · rw [if_neg c2]
          obtain ⟨r, z1, z2, z3⟩ := ih (i + 1) fu 0 (by omega) (by omega) (Or.inl rfl)
          exact ⟨r, z1, z2, z3.trans ⟨fun z => absurd z.1 (by decide), fun z => absurd (z.2 i (Nat.le_refl _) (by omega)) c2⟩⟩
  have outer : ∀ (d q fu : Nat), q + d = G → d < fu → (∀ p, p < q → ¬ ∀ i, i < ng → ky p i = kk i) → ∃ p, f_G_groupOfKeys_2 N fu σ (nI ng) (nI q) = some (nI p, σ) ∧ GrpAt ng G ky kk p := by
    intro d
    induction d with
    | zero =>
      intro q fu hq hfu hb
      obtain ⟨fu, rfl⟩ : ∃ q, fu = q + 1 := ⟨fu - 1, by omega⟩
      have e : q = G := by omega
      subst e
      refine ⟨q, ?_, Nat.le_refl _, hb, fun z => by omega⟩
      show f_G_groupOfKeys_2_b N (f_G_groupOfKeys_2 N fu) σ (nI ng) (nI q) = _
      unfold f_G_groupOfKeys_2_b
      rw [hg, if_pos (nI_le (Nat.le_refl _) (by omega))]
    | succ d ih =>
      intro q fu hq hfu hb
      obtain ⟨fu, rfl⟩ : ∃ q, fu = q + 1 := ⟨fu - 1, by omega⟩
      have e0 : f_G_groupOfKeys_2 N (fu + 1) σ (nI ng) (nI q) = f_G_groupOfKeys_2_b N (f_G_groupOfKeys_2 N fu) σ (nI ng) (nI q) := rfl
      rw [e0]
      unfold f_G_groupOfKeys_2_b
      rw [hg, if_neg (nI_ge (by omega) (by omega)), ckb_nI (show q < 512 by omega) (by decide), ckb_nI (show G < 512 by omega) (by decide), nI_clamp (show q < 2 ^ 31 by omega), nI_clamp (show G < 2 ^ 31 by omega)]
      have ks := kx_same h4 (hk q (by omega)) ho
      have fin : ∀ s : Int32, (s = 0 ∨ s = 1) → (s = 1 ↔ ga σ 24 q = ga σ 24 G) → ∃ p, f_G_groupOfKeys_37 N (f_G_groupOfKeys_2 N fu) N σ (nI ng) (nI q) s 0 = some (nI p, σ) ∧ GrpAt ng G ky kk p := by
        intro s hs hb'
        obtain ⟨r, r1, r2, r3⟩ := inner (f_G_groupOfKeys_2 N fu) q (by omega) ng 0 N s (by omega) (by omega) hs
        have r2 : f_G_groupOfKeys_37 N (f_G_groupOfKeys_2 N fu) N σ (nI ng) (nI q) s 0 = _ := r2
        rw [r2]
        have r4 : r = 1 ↔ ∀ i, i < ng → ky q i = kk i := by
          rw [r3, hb', ← ks]
          exact ⟨fun z => ⟨z.1, fun j hj => z.2 j (by omega) hj⟩, fun z => ⟨z.1, fun j _ hj => z.2 j hj⟩⟩
        unfold f_G_groupOfKeys_88
        by_cases c : r = 0
        · rw [if_pos c, nI_1]
          refine ih (q + 1) fu (by omega) (by omega) (fun p hp => ?_)
          by_cases e : p = q
          · subst e
            exact fun u => by have := r4.mpr u; rw [c] at this; exact absurd this (by decide)
          · exact hb p (by omega)
        · have r11 : r = 1 := by rcases r1 with z | z; exact absurd z c; exact z
          rw [if_neg c]
          exact ⟨q, rfl, by omega, hb, fun _ => r4.mp r11⟩
      by_cases c : ga σ 24 q = ga σ 24 G
      · rw [if_pos c]
        exact fin 1 (Or.inr rfl) ⟨fun _ => c, fun _ => rfl⟩
      · rw [if_neg c]
        exact fin 0 (Or.inl rfl) ⟨fun z => absurd z (by decide), fun z => absurd z c⟩
  exact outer G 0 N (by omega) (by omega) (fun p hp => by omega)

