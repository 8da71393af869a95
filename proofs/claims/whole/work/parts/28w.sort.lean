/-! orders as lists: the last stands at the head (own rows) -/
def SkP (Q : Nat → Nat → Prop) (off : Nat) : List Nat → Prop
  | [] => True
  | x :: l => Q (off + l.length) x ∧ SkP Q off l
def FwP (Q : Nat → Nat → Prop) (off : Nat) : List Nat → Prop
  | [] => True
  | x :: l => Q off x ∧ FwP Q (off + 1) l
theorem SkP.imp {Q Q' : Nat → Nat → Prop} {off : Nat} : ∀ {l : List Nat}, SkP Q off l → (∀ p x, off ≤ p → p < off + l.length → x ∈ l → Q p x → Q' p x) → SkP Q' off l
  | [], _, _ => trivial
  | y :: l, h, k => ⟨k _ _ (Nat.le_add_right _ _) (by simp only [List.length_cons]; omega) List.mem_cons_self h.1, h.2.imp (fun p x h1 h2 hm q => k p x h1 (by simp only [List.length_cons]; omega) (List.mem_cons_of_mem _ hm) q)⟩
theorem FwP.imp {Q Q' : Nat → Nat → Prop} : ∀ {l : List Nat} {off : Nat}, FwP Q off l → (∀ p x, off ≤ p → p < off + l.length → Q p x → Q' p x) → FwP Q' off l
  | [], _, _, _ => trivial
  | y :: l, off, h, k => ⟨k _ _ (Nat.le_refl _) (by simp only [List.length_cons]; omega) h.1, h.2.imp (fun p x h1 h2 q => k p x (by omega) (by simp only [List.length_cons]; omega) q)⟩
theorem FwP.snoc {Q : Nat → Nat → Prop} {x : Nat} : ∀ {l : List Nat} {off : Nat}, FwP Q off l → Q (off + l.length) x → FwP Q off (l ++ [x])
  | [], _, _, h => ⟨h, trivial⟩
  | y :: l, off, h, k => ⟨h.1, FwP.snoc h.2 (by simp only [List.length_cons] at k; rw [show off + 1 + l.length = off + (l.length + 1) by omega]; exact k)⟩
theorem SkP.snoc {Q : Nat → Nat → Prop} {b off : Nat} : ∀ {A : List Nat}, SkP Q (off + 1) A → Q off b → SkP Q off (A ++ [b])
  | [], _, h => ⟨h, trivial⟩
  | y :: A, h, k => ⟨by
      have := h.1
      rw [show off + 1 + A.length = off + (A ++ [b]).length by simp only [List.length_append, List.length_cons, List.length_nil]; omega] at this
      exact this, SkP.snoc h.2 k⟩
theorem SkP.app {Q : Nat → Nat → Prop} {off : Nat} : ∀ {A B : List Nat}, SkP Q (off + B.length) A → SkP Q off B → SkP Q off (A ++ B)
  | [], _, _, h => h
  | y :: A, B, h, k => ⟨by
      have := h.1
      rw [show off + B.length + A.length = off + (A ++ B).length by simp only [List.length_append]; omega] at this
      exact this, SkP.app h.2 k⟩
theorem SkP.get {Q : Nat → Nat → Prop} {off j : Nat} : ∀ {l : List Nat}, SkP Q off l → j < l.length → ∃ x, l[l.length - 1 - j]? = some x ∧ Q (off + j) x
  | y :: l, h, hj => by
    simp only [List.length_cons] at hj
    by_cases c : j = l.length
    · refine ⟨y, ?_, by rw [c]; exact h.1⟩
      simp only [List.length_cons]
      rw [show l.length + 1 - 1 - j = 0 by omega]
      rfl
    · obtain ⟨x, z1, z2⟩ := SkP.get (j := j) h.2 (by omega)
      refine ⟨x, ?_, z2⟩
      simp only [List.length_cons]
      rw [show l.length + 1 - 1 - j = (l.length - 1 - j) + 1 by omega, List.getElem?_cons_succ]
      exact z1
/-- row goes behind all that it does not come before -/
def ins (g : Nat → Nat → Bool) (row : Nat) : List Nat → List Nat
  | [] => [row]
  | p :: l => if g row p = true then p :: ins g row l else row :: p :: l
theorem ins_len {g : Nat → Nat → Bool} {row : Nat} : ∀ l : List Nat, (ins g row l).length = l.length + 1
  | [] => rfl
  | p :: l => by
    unfold ins
    split
    · simp only [List.length_cons, ins_len l]
    · simp only [List.length_cons]
theorem ins_mem {g : Nat → Nat → Bool} {row x : Nat} : ∀ {l : List Nat}, x ∈ ins g row l → x = row ∨ x ∈ l
  | [], h => by unfold ins at h; simp only [List.mem_singleton] at h; exact Or.inl h
  | p :: l, h => by
    unfold ins at h
    split at h
    · simp only [List.mem_cons] at h ⊢
      rcases h with h | h
      · exact Or.inr (Or.inl h)
      · rcases ins_mem h with h | h
        · exact Or.inl h
        · exact Or.inr (Or.inr h)
    · simp only [List.mem_cons] at h ⊢
      exact h
def bfB (V : Nat → Nat → Option Int64) (oI : Nat → Nat) (oD : Nat → Bool) (x y : Nat) : Nat → Nat → Bool
  | 0, _ => false
  | q + 1, k => (decide (c3 (V x (oI k)) (V y (oI k)) = 0) && bfB V oI oD x y q (k + 1)) || ((decide (c3 (V x (oI k)) (V y (oI k)) < 0) && !oD k) || (decide (0 < c3 (V x (oI k)) (V y (oI k))) && oD k))
theorem bfB_iff {V : Nat → Nat → Option Int64} {oI : Nat → Nat} {oD : Nat → Bool} {x y : Nat} : ∀ (q k : Nat), bfB V oI oD x y q k = true ↔ bfr V oI (fun k => oD k = true) x y q k
  | 0, _ => by simp [bfB, bfr]
  | q + 1, k => by
    unfold bfB bfr
    simp only [Bool.or_eq_true, Bool.and_eq_true, decide_eq_true_eq, bfB_iff q (k + 1), Bool.not_eq_true']
    cases oD k <;> simp
theorem wa_sa {σ : St} {r p : Nat} {f : Nat → Int32} {v : Int32} (hp : p < 2 ^ 31) : wa (sa σ r f) r (nI p) v = sa σ r (upd f p v) := by
  unfold wa
  rw [sa_sa, ga_sa, if_pos rfl, nI_clamp hp]
theorem em1 (a : Int32) : a + Int32.ofInt (-1) = a - 1 := by rw [Int32.sub_eq_add_neg]; rfl
theorem x_ins (N : Nat) (hN : 100 < N) {V : Nat → Nat → Option Int64} {ni no k row : Nat} {oI : Nat → Nat} {oD : Nat → Bool} {σ : St} (h : CX V ni k σ) (h6 : ni ≤ 6) (h4 : no ≤ 4) (hk : k ≤ 200) (ho : gi σ 8 = nI no) (hI : ∀ q, q < no → oI q < ni ∧ ga σ 18 q = nI (oI q) ∧ (ga σ 19 q = 0 ↔ ¬ oD q = true)) (hrow : row < k) :
    ∀ (B A : List Nat) (f : Nat → Int32) (fu : Nat), (∀ x, x ∈ B → x < k) → B.length + A.length < 200 → B.length < fu → SkP (fun p x => f p = nI x) 0 B → SkP (fun p x => f p = nI x) (B.length + 1) A → ∃ f', f_A_insertInOrder_3 N fu (sa σ 21 f) (nI row) (nI B.length) = some ((), sa σ 21 f') ∧ SkP (fun p x => f' p = nI x) 0 (A ++ ins (fun a b => bfB V oI oD a b no 0) row B) := by
  intro B
  induction B with
  | nil =>
    intro A f fu hB hl hfu s1 s2
    obtain ⟨fu, rfl⟩ : ∃ q, fu = q + 1 := ⟨fu - 1, by omega⟩
    refine ⟨upd f 0 (nI row), ?_, ?_⟩
    · show f_A_insertInOrder_3_b N (f_A_insertInOrder_3 N fu) (sa σ 21 f) (nI row) (nI 0) = _
      unfold f_A_insertInOrder_3_b
      rw [if_pos (show nI 0 ≤ 0 by decide), ckb_nI (show 0 < 200 by decide) (by decide), nm_eq, wa_sa (by decide)]
    · refine SkP.snoc (s2.imp (fun p x h1 h2 _ q => ?_)) ?_
      · show upd f 0 (nI row) p = nI x
        rw [upd_at, if_neg (by omega)]
        exact q
      · show upd f 0 (nI row) 0 = nI row
        rw [upd_at, if_pos rfl]
  | cons b B ih =>
    intro A f fu hB hl hfu s1 s2
    obtain ⟨fu, rfl⟩ : ∃ q, fu = q + 1 := ⟨fu - 1, by omega⟩
    simp only [List.length_cons] at hl hfu
    have fb : f (0 + B.length) = nI b := s1.1
    rw [Nat.zero_add] at fb
    have hb : b < k := hB b List.mem_cons_self
    obtain ⟨r, c1, c2⟩ := x_compare N hN (σ := sa σ 21 f) (oD := fun k => oD k = true) h h6 h4 hk ho hI hb hrow
    have e0 : f_A_insertInOrder_3 N (fu + 1) (sa σ 21 f) (nI row) (nI (B.length + 1)) = f_A_insertInOrder_3_b N (f_A_insertInOrder_3 N fu) (sa σ 21 f) (nI row) (nI (B.length + 1)) := rfl
    have e1 : f_A_insertInOrder_3 N (fu + 1) (sa σ 21 f) (nI row) (nI (B.length + 1)) = if r ≤ 0 then some ((), sa σ 21 (upd f (B.length + 1) (nI row))) else f_A_insertInOrder_3 N fu (sa σ 21 (upd f (B.length + 1) (nI b))) (nI row) (nI B.length) := by
      rw [e0]
      unfold f_A_insertInOrder_3_b
      rw [if_neg (show ¬ nI (B.length + 1) ≤ 0 from nI_nle (by omega) (by omega)), nI_pred, ckb_nI (show B.length < 200 by omega) (by decide), nI_clamp (show B.length < 2 ^ 31 by omega), show ga (sa σ 21 f) 21 B.length = nI b by rw [ga_sa, if_pos rfl]; exact fb, c1, bd_eq, ckb_nI (show B.length < 200 by omega) (by decide), ckb_nI (show B.length + 1 < 200 by omega) (by decide), ckb_nI (show B.length + 1 < 200 by omega) (by decide), nm_eq, nm_eq, show ga (sa σ 21 f) 21 B.length = nI b by rw [ga_sa, if_pos rfl]; exact fb, wa_sa (show B.length + 1 < 2 ^ 31 by omega), wa_sa (show B.length + 1 < 2 ^ 31 by omega), em1, nI_pred]
    show ∃ f', f_A_insertInOrder_3 N (fu + 1) (sa σ 21 f) (nI row) (nI (B.length + 1)) = some ((), sa σ 21 f') ∧ _
    rw [e1]
    have gi' : (fun a b => bfB V oI oD a b no 0) row b = true ↔ ¬ r ≤ 0 := by
      show bfB V oI oD row b no 0 = true ↔ _
      rw [bfB_iff, c2]
      exact ⟨fun z y => y z, fun z => Classical.not_not.mp z⟩
    unfold ins
    by_cases c : r ≤ 0
    · rw [if_pos c, if_neg (fun z => gi'.mp z c)]
      refine ⟨_, rfl, ?_⟩
      have s2' : SkP (fun p x => upd f (B.length + 1) (nI row) p = nI x) (0 + (row :: b :: B).length) A := by
        rw [show 0 + (row :: b :: B).length = (b :: B).length + 1 by simp only [List.length_cons]; omega]
        refine s2.imp (fun p x h1 h2 _ q => ?_)
        simp only [List.length_cons] at h1
        rw [upd_at, if_neg (by omega)]
        exact q
      refine SkP.app (B := row :: b :: B) s2' ⟨?_, ?_⟩
      · show upd f (B.length + 1) (nI row) (0 + (b :: B).length) = nI row
        rw [upd_at, if_pos (by simp only [List.length_cons]; omega)]
      · refine SkP.imp (l := b :: B) s1 (fun p x h1 h2 _ q => ?_)
        show upd f (B.length + 1) (nI row) p = nI x
        simp only [List.length_cons] at h2
        rw [upd_at, if_neg (by omega)]
        exact q
    · rw [if_neg c, if_pos (gi'.mpr c)]
      obtain ⟨f', z1, z2⟩ := ih (A ++ [b]) (upd f (B.length + 1) (nI b)) fu (fun x hx => hB x (List.mem_cons_of_mem _ hx)) (by simp only [List.length_append, List.length_cons, List.length_nil]; omega) (by omega) (s1.2.imp (fun p x h1 h2 _ q => by
          show upd f (B.length + 1) (nI b) p = nI x
          rw [upd_at, if_neg (by omega)]
          exact q)) (SkP.snoc (s2.imp (fun p x h1 h2 _ q => by
          show upd f (B.length + 1) (nI b) p = nI x
          simp only [List.length_cons] at h1
          rw [upd_at, if_neg (by omega)]
          exact q)) (by show upd f (B.length + 1) (nI b) (B.length + 1) = nI b; rw [upd_at, if_pos rfl]))
      refine ⟨f', z1, ?_⟩
      rw [List.append_assoc] at z2
      exact z2
/-- rows that stay: all, or those that no earlier one is like -/
def kpB (D : Bool) (V : Nat → Nat → Option Int64) (ni r : Nat) : Bool := !D || decide (∀ y, y < r → ¬ ∀ i, i < ni → V y i = V r i)
def kf (D : Bool) (V : Nat → Nat → Option Int64) (ni : Nat) : Nat → List Nat
  | 0 => []
  | r + 1 => if kpB D V ni r = true then kf D V ni r ++ [r] else kf D V ni r
theorem kf_len {D : Bool} {V : Nat → Nat → Option Int64} {ni : Nat} : ∀ r, (kf D V ni r).length ≤ r
  | 0 => Nat.le_refl _
  | r + 1 => by
    unfold kf
    have := kf_len (D := D) (V := V) (ni := ni) r
    split
    · simp only [List.length_append, List.length_cons, List.length_nil]; omega
    · omega
theorem kf_mem {D : Bool} {V : Nat → Nat → Option Int64} {ni x : Nat} : ∀ {r}, x ∈ kf D V ni r → x < r
  | 0, h => by unfold kf at h; cases h
  | r + 1, h => by
    unfold kf at h
    split at h
    · simp only [List.mem_append, List.mem_singleton] at h
      rcases h with h | h
      · have := kf_mem h; omega
      · omega
    · have := kf_mem h; omega
def srt (g : Nat → Nat → Bool) (l : List Nat) : List Nat := l.foldl (fun s x => ins g x s) []
theorem srt_snoc {g : Nat → Nat → Bool} {l : List Nat} {x : Nat} : srt g (l ++ [x]) = ins g x (srt g l) := by
  unfold srt
  rw [List.foldl_append]
  rfl
theorem fold_len {g : Nat → Nat → Bool} : ∀ (l s : List Nat), (l.foldl (fun s x => ins g x s) s).length = s.length + l.length
  | [], s => rfl
  | x :: l, s => by
    rw [List.foldl_cons, fold_len l, ins_len]
    simp only [List.length_cons]
    omega
theorem fold_mem {g : Nat → Nat → Bool} {y : Nat} : ∀ {l s : List Nat}, y ∈ l.foldl (fun s x => ins g x s) s → y ∈ s ∨ y ∈ l
  | [], s, h => Or.inl h
  | x :: l, s, h => by
    rw [List.foldl_cons] at h
    rcases fold_mem h with h | h
    · rcases ins_mem h with h | h
      · rw [h]; exact Or.inr List.mem_cons_self
      · exact Or.inl h
    · exact Or.inr (List.mem_cons_of_mem _ h)
theorem srt_len {g : Nat → Nat → Bool} {l : List Nat} : (srt g l).length = l.length := by
  unfold srt
  rw [fold_len]
  simp
theorem srt_mem {g : Nat → Nat → Bool} {l : List Nat} {y : Nat} (h : y ∈ srt g l) : y ∈ l := by
  rcases fold_mem h with h | h
  · cases h
  · exact h
theorem x_finish (N : Nat) (hN : 300 < N) {V : Nat → Nat → Option Int64} {ni no k kp sk : Nat} {oI : Nat → Nat} {oD : Nat → Bool} {D : Bool} {σ : St} (h : CX V ni k σ) (h6 : ni ≤ 6) (h4 : no ≤ 4) (hk : k ≤ 200) (hn : gi σ 12 = nI ni) (hr : gi σ 14 = nI k) (ho : gi σ 8 = nI no) (hI : ∀ q, q < no → oI q < ni ∧ ga σ 18 q = nI (oI q) ∧ (ga σ 19 q = 0 ↔ ¬ oD q = true))
    (hD : gi σ 9 = 0 ↔ D = false) (h1 : kp ≤ 1000) (h2 : sk ≤ 1000) (e1 : gi σ 10 = nI kp) (e2 : gi σ 11 = nI sk) :
    ∀ (d r fu : Nat) (f : Nat → Int32), r + d = k → d < fu → SkP (fun p x => f p = nI x) 0 (srt (fun a b => bfB V oI oD a b no 0) (kf D V ni r)) → ∃ f', f_A_finish_12 N fu (sa σ 21 f) (nI (kf D V ni r).length) (nI r) = some ((), si (si (sa σ 21 f') 15 (nI (min sk (kf D V ni k).length))) 13 (nI (min kp ((kf D V ni k).length - min sk (kf D V ni k).length)))) ∧ SkP (fun p x => f' p = nI x) 0 (srt (fun a b => bfB V oI oD a b no 0) (kf D V ni k)) := by
  intro d
  induction d with
  | zero =>
    intro r fu f hd hfu s
    obtain ⟨fu, rfl⟩ : ∃ q, fu = q + 1 := ⟨fu - 1, by omega⟩
    have e : r = k := by omega
    subst e
    have len := kf_len (D := D) (V := V) (ni := ni) r
    refine ⟨f, ?_, s⟩
    show f_A_finish_12_b N (f_A_finish_12 N fu) (sa σ 21 f) (nI (kf D V ni r).length) (nI r) = _
    unfold f_A_finish_12_b
    rw [show gi (sa σ 21 f) 14 = nI r from hr, if_pos (nI_le (Nat.le_refl _) (by omega)), nm_eq, nm_eq, show gi (sa σ 21 f) 11 = nI sk from e2]
    obtain ⟨c, hc⟩ : ∃ c, c = (kf D V ni r).length := ⟨_, rfl⟩
    rw [← hc] at len ⊢
    have m1 : (if nI c < nI sk then nI c else nI sk) = nI (min sk c) := by
      by_cases z : c < sk
      · rw [if_pos (nI_lt z (by omega)), Nat.min_eq_right (by omega)]
      · rw [if_neg (nI_nlt (by omega) (by omega)), Nat.min_eq_left (by omega)]
    rw [m1]
    have xle : min sk c ≤ c := Nat.min_le_right _ _
    generalize min sk c = x at xle
    have g1 : gi (si (sa σ 21 f) 15 (nI x)) 15 = nI x := rfl
    have g2 : gi (si (sa σ 21 f) 15 (nI x)) 10 = nI kp := e1
    rw [g1, g2]
    have ms : nI c - nI x = nI (c - x) := by
      have : nI (c - x) + nI x = nI c := by rw [nI_add]; congr 1; omega
      rw [← this]
      exact Int32.add_sub_cancel _ _
    rw [ms]
    have m2 : (if nI (c - x) < nI kp then nI (c - x) else nI kp) = nI (min kp (c - x)) := by
      by_cases z : c - x < kp
      · rw [if_pos (nI_lt z (by omega)), Nat.min_eq_right (by omega)]
      · rw [if_neg (nI_nlt (by omega) (by omega)), Nat.min_eq_left (by omega)]
    rw [m2]
  | succ d ih =>
    intro r fu f hd hfu s
    obtain ⟨fu, rfl⟩ : ∃ q, fu = q + 1 := ⟨fu - 1, by omega⟩
    have len := kf_len (D := D) (V := V) (ni := ni) r
    have e0 : f_A_finish_12 N (fu + 1) (sa σ 21 f) (nI (kf D V ni r).length) (nI r) = f_A_finish_12_b N (f_A_finish_12 N fu) (sa σ 21 f) (nI (kf D V ni r).length) (nI r) := rfl
    have take : kpB D V ni r = true → ∃ f', f_A_finish_35 N (f_A_finish_12 N fu) (sa σ 21 f) (nI (kf D V ni r).length) (nI r) = some ((), si (si (sa σ 21 f') 15 (nI (min sk (kf D V ni k).length))) 13 (nI (min kp ((kf D V ni k).length - min sk (kf D V ni k).length)))) ∧ SkP (fun p x => f' p = nI x) 0 (srt (fun a b => bfB V oI oD a b no 0) (kf D V ni k)) := by
      intro kp'
      obtain ⟨f1, z1, z2⟩ := x_ins N (by omega) h h6 h4 hk ho hI (show r < k by omega) (srt (fun a b => bfB V oI oD a b no 0) (kf D V ni r)) [] f N (fun x hx => by have := kf_mem (srt_mem hx); omega) (by rw [srt_len]; simp only [List.length_nil]; omega) (by rw [srt_len]; omega) s trivial
      rw [srt_len] at z1
      have kfs : kf D V ni (r + 1) = kf D V ni r ++ [r] := by
        show (if kpB D V ni r = true then kf D V ni r ++ [r] else kf D V ni r) = _
        rw [if_pos kp']
      have z2' : SkP (fun p x => f1 p = nI x) 0 (srt (fun a b => bfB V oI oD a b no 0) (kf D V ni (r + 1))) := by
        rw [kfs, srt_snoc]
        exact z2
      obtain ⟨f', y1, y2⟩ := ih (r + 1) fu f1 (by omega) (by omega) z2'
      refine ⟨f', ?_, y2⟩
      unfold f_A_finish_35 f_A_insertInOrder
      rw [z1, bd_eq, nI_1, nI_1]
      rw [kfs] at y1
      simp only [List.length_append, List.length_cons, List.length_nil, Nat.zero_add] at y1
      exact y1
    have drop : ¬ kpB D V ni r = true → ∃ f', f_A_finish_12 N fu (sa σ 21 f) (nI (kf D V ni r).length) (nI (r + 1)) = some ((), si (si (sa σ 21 f') 15 (nI (min sk (kf D V ni k).length))) 13 (nI (min kp ((kf D V ni k).length - min sk (kf D V ni k).length)))) ∧ SkP (fun p x => f' p = nI x) 0 (srt (fun a b => bfB V oI oD a b no 0) (kf D V ni k)) := by
      intro kp'
      have kfs : kf D V ni (r + 1) = kf D V ni r := by
        show (if kpB D V ni r = true then kf D V ni r ++ [r] else kf D V ni r) = _
        rw [if_neg kp']
      have := ih (r + 1) fu f (by omega) (by omega) (by rw [kfs]; exact s)
      rw [kfs] at this
      exact this
    rw [e0]
    unfold f_A_finish_12_b
    rw [show gi (sa σ 21 f) 14 = nI k from hr, if_neg (nI_ge (by omega) (by omega)), show gi (sa σ 21 f) 9 = gi σ 9 from rfl]
    by_cases c : gi σ 9 = 0
    · rw [if_pos c]
      exact take (by unfold kpB; rw [hD.mp c]; rfl)
    · rw [if_neg c]
      have d1 : D = true := by cases D; exact absurd (hD.mpr rfl) c; rfl
      obtain ⟨q, q1, q2⟩ := x_rep N hN (σ := sa σ 21 f) h h6 hk hn (show r < k by omega)
      rw [q1, bd_eq]
      have kq : kpB D V ni r = true ↔ q = 0 := by
        rw [q2]
        unfold kpB
        rw [d1]
        simp
      by_cases c2 : q = 0
      · rw [if_pos c2]
        exact take (kq.mpr c2)
      · rw [if_neg c2, nI_1]
        exact drop (fun z => c2 (kq.mp z))

