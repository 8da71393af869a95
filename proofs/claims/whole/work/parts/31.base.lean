/-! worlds as sets of cells: order, parts (own rows) -/
theorem vP_mem {D : va_G} {cl : List vw_C} {ws : va_W} {H : Heap} : va_P D cl ws H ↔ ∀ q ∈ ws, va_at D cl q H :=
  ⟨fun h q hq => by obtain ⟨k, hk⟩ := List.getElem?_of_mem hq; exact h k q hk, fun h k q hk => h q (List.mem_of_getElem? hk)⟩
theorem vD_mem {A : Nat → Prop} {ws : va_W} : va_D A ws ↔ ws.Pairwise (fun p q => p.1 ≠ q.1) ∧ ∀ q ∈ ws, A q.1 := by
  constructor
  · intro h
    refine ⟨List.pairwise_iff_getElem.mpr fun i j hi hj hij he => ?_, fun q hq => by obtain ⟨k, hk⟩ := List.getElem?_of_mem hq; exact h.2 k q hk⟩
    have := h.1 i j _ _ (List.getElem?_eq_getElem hi) (List.getElem?_eq_getElem hj) he
    omega
  · intro h
    refine ⟨fun i j x y hi hj he => ?_, fun k q hk => h.2 q (List.mem_of_getElem? hk)⟩
    obtain ⟨hi', ei⟩ := List.getElem?_eq_some_iff.mp hi
    obtain ⟨hj', ej⟩ := List.getElem?_eq_some_iff.mp hj
    rcases Nat.lt_trichotomy i j with c | c | c
    · exact absurd he (by rw [← ei, ← ej]; exact List.pairwise_iff_getElem.mp h.1 i j hi' hj' c)
    · exact c
    · exact absurd he.symm (by rw [← ei, ← ej]; exact List.pairwise_iff_getElem.mp h.1 j i hj' hi' c)
theorem vP_perm {D : va_G} {cl : List vw_C} {w1 w2 : va_W} {H : Heap} (hp : w1.Perm w2) (h : va_P D cl w1 H) : va_P D cl w2 H := vP_mem.mpr fun q hq => vP_mem.mp h q (hp.mem_iff.mpr hq)
theorem vD_perm {A : Nat → Prop} {w1 w2 : va_W} (hp : w1.Perm w2) (h : va_D A w1) : va_D A w2 :=
  vD_mem.mpr ⟨(hp.pairwise_iff (fun e => Ne.symm e)).mp (vD_mem.mp h).1, fun q hq => (vD_mem.mp h).2 q (hp.mem_iff.mpr hq)⟩
theorem vP_subl {D : va_G} {cl : List vw_C} {w1 w2 : va_W} {H : Heap} (hp : w1.Sublist w2) (h : va_P D cl w2 H) : va_P D cl w1 H := vP_mem.mpr fun q hq => vP_mem.mp h q (hp.subset hq)
theorem vD_subl {A : Nat → Prop} {w1 w2 : va_W} (hp : w1.Sublist w2) (h : va_D A w2) : va_D A w1 :=
  vD_mem.mpr ⟨(vD_mem.mp h).1.sublist hp, fun q hq => (vD_mem.mp h).2 q (hp.subset hq)⟩
theorem vW_end (w tl : va_W) (x : Nat × va_E) : (w ++ tl ++ [x]).Perm (w ++ x :: tl) := by
  rw [List.append_assoc]
  exact List.Perm.append_left w (List.perm_append_singleton x tl)
theorem vW_drop (w tl : va_W) (x : Nat × va_E) : (w ++ tl).Sublist (w ++ x :: tl) := List.Sublist.append_left (List.sublist_cons_self x tl) w
theorem vP_drop {D : va_G} {cl : List vw_C} {w tl : va_W} {x : Nat × va_E} {H : Heap} (h : va_P D cl (w ++ x :: tl) H) : va_P D cl (w ++ tl) H := vP_subl (vW_drop w tl x) h
theorem vD_drop {A : Nat → Prop} {w tl : va_W} {x : Nat × va_E} (h : va_D A (w ++ x :: tl)) : va_D A (w ++ tl) := vD_subl (vW_drop w tl x) h

/-! contracts over whole worlds: entering a method, returning, calling (own rows) -/
section QB
variable {p : Program} {l : Launch} {e : Env} {R : Room} {s : State} {m : MethodId} {args : Array Value} {below : List Frame} {meth : Method} {c : Code} {H : Heap} {locs : List Loc} {cells slots : Nat} {Q : State → Prop}
variable {y : MethodName} {bytes cc : ByteArray} {maxL nL mc ms n index pc : Nat} {ret : Option FieldType} {ws ws' : List Cond} {rm : Room} {Ts : List Cond} {own C host : String} {b : Addr} {As av rest st0 : List Value} {ls : Array Slot}
variable {D : va_G} {cl : List vw_C} {A : Nat → Prop} {tys : List (ClassId × FieldType)} {w0 w1 : va_W} {H0 : Heap} {nw : List Cond}
def nwOK : Cond → Bool
  | .methodLinkNest .. => true
  | .fieldLinkNest .. => true
  | _ => false
theorem nw_warm {U : State} (hok : nw.all nwOK = true) (hW : s.WarmedH U.vm) (h : ∀ w ∈ nw, va_Nw w s) : ∀ w ∈ nw, va_Nw w U := by
  intro w hw
  have h1 := List.all_eq_true.mp hok w hw
  have h2 := h w hw
  cases w <;> first | exact va_Nw.warmM hW h2 | exact va_Nw.warmF hW h2 | exact absurd (show false = true from h1) (by decide)
theorem nw_on (hok : nw.all nwOK = true) {w : Cond} (hw : w ∈ nw) : w.onTables = true := by
  have h1 := List.all_eq_true.mp hok w hw
  cases w <;> first | rfl | exact absurd (show false = true from h1) (by decide)
def qb_Pc (D : va_G) (cl : List vw_C) (tys : List (ClassId × FieldType)) (nw : List Cond) (av : List Value) (w0 : va_W) (sz : Nat) : Array Value → State → Prop := va_Pc av (fun U => U.heap.size = sz ∧ va_P D cl w0 U.heap ∧ va_K D cl tys U ∧ (∀ w ∈ nw, va_Nw w U) ∧ va_D (fun _ => True) w0)
theorem qb_blind {sz : Nat} (hok : nw.all nwOK = true) : FrameBlind (qb_Pc D cl tys nw av w0 sz) := fun a U g mk q => by
  obtain ⟨q0, q1, qP, qK, qN, qD⟩ := q
  exact ⟨q0, q1, qP, va_K.moved (u := U) (U := U.calling g mk a) (Vm.Alike.refl U.vm) qK, fun w hw => va_Nw.same (u := U) (U := U.calling g mk a) (nw_on hok hw) rfl (qN w hw), qD⟩
theorem qb_start (hok : nw.all nwOK = true) (hN : ∀ w ∈ nw, va_Nw w s) (hK : va_K D cl tys s) (hP : va_P D cl w0 H) (hD : va_D A w0) : ∀ U : State, U.heap = H → s.WarmedH U.vm → qb_Pc D cl tys nw av w0 H.size av.toArray U :=
  fun U hU hW => ⟨rfl, by rw [hU], by rw [hU]; exact hP, va_K.moved hW.alike hK, nw_warm hok hW hN, hD.weaken (fun _ _ _ _ => trivial)⟩
theorem qb_free (hD : va_D A w0) (hS : va_S A H0 H locs) (hA : ∀ q, H0.size ≤ q → A q) : ∀ q, va_A w0 H.size q → A q := fun q h => by
  rcases h with ⟨k, e, h⟩ | h
  · exact hD.2 k _ h
  · exact hA q (Nat.le_trans hS.1 h)

def qb_QI (D : va_G) (cl : List vw_C) (tys : List (ClassId × FieldType)) (w1 : va_W) (A : Nat → Prop) (r : Int32) : Array Value → State → Outcome → State → Prop := va_Qi (fun (r' : Int32) (_ : Unit) => r' = r) (fun _ t => va_P D cl w1 t.heap ∧ va_K D cl tys t ∧ va_D A w1) A
def CtI (l : Launch) (y : MethodName) (ws : List Cond) (rm : Room) (mc ms : Nat) (D : va_G) (cl : List vw_C) (tys : List (ClassId × FieldType)) (nw : List Cond) (av : List Value) (w0 w1 : va_W) (r : Int32) : Prop :=
  ∀ sz : Nat, Met l y ws rm (qb_Pc D cl tys nw av w0 sz) (qb_QI D cl tys w1 (va_A w0 sz) r) mc ms (va_A w0 sz)
theorem en_I {r : Int32} (hy : plainName y.cls = true) (hw : ws = Cond.code y cc maxL (some .int) :: ws') (hlen : (lg_sl av).length ≤ maxL)
    (body : ∀ (p : Program) (e : Env) (s : State) (m : MethodId) (below : List Frame) (meth : Method) (c : Code) (A : Nat → Prop) (ls : Array Slot) (R : Room) (args : Array Value) (H : Heap) (locs : List Loc), R = rm → p.tables.exec = Jvm.exec → c.code = cc → meth.sig.returnType = some .int → meth.locks = false → c.maxLocals = maxL → s.vm.findClass y.cls = some m.cls → (∀ w ∈ ws', w.before args s = true) → va_K D cl tys s → (∀ w ∈ nw, va_Nw w s) → va_P D cl w0 H → va_D A w0 → (∀ q, s.heap.size ≤ q → A q) → va_S A s.heap H locs → lv_has ls maxL (lv_args 0 av) →
      W p l e R s m args below meth c H locs 0 0 (MQ below (qb_QI D cl tys w1 A r) args s mc ms A) (F0 m 0 ls [])) : CtI l y ws rm mc ms D cl tys nw av w0 w1 r := by
  intro sz
  refine Met.ofW hy hw ?_
  intro p e s m args below meth c s₁ B hml hv
  obtain ⟨rfl, hsz, hP, hK, hN, hD0⟩ := hv
  subst hsz
  have hD := hD0.self (sz := s.heap.size)
  have hl := lv_entry av (n := maxL) hlen
  have hts := atoms_spec (ws := ws) B.pre
  rw [hw] at hts
  rw [lg_entry_eq]
  exact body p e s m below meth c _ _ _ _ _ _ rfl B.exec B.bytes B.returns B.notSynchronized hml (findClass_of_methodNamed B.named) (fun w h => hts w (List.mem_cons_of_mem _ h)) hK hN hP hD (fun q h => Or.inr h) va_S.rf hl
theorem rt_I {r : Int32} (hexec : p.tables.exec = Jvm.exec) (hb : c.code = cc) (hr : meth.sig.returnType = some .int) (hlk : meth.locks = false) (hK : va_K D cl tys s) (hP : va_P D cl w1 H) (hD : va_D A w1) (hS : va_S A s.heap H locs) (hdg : decode cc pc = .ok (.ireturn, 1)) :
    W p l e R s m args below meth c H locs cells slots (MQ below (qb_QI D cl tys w1 A r) args s cells slots A) (F0 m pc ls [.int r]) :=
  W.iret hexec hb hr (fun t ht hW => ⟨⟨r, (), rfl, rfl, by rw [ht]; exact hP, va_K.moved hW.alike hK, hD⟩, hS.F ht⟩) hS.2.2 hdg hlk
theorem rf_I {S : Type} {v r : Int32} {s1 s2 : S} {w : S → va_W} (h : some (v, s1) = some (r, s2)) (hexec : p.tables.exec = Jvm.exec) (hb : c.code = cc) (hr : meth.sig.returnType = some .int) (hlk : meth.locks = false) (hK : va_K D cl tys s) (hP : va_P D cl (w s1) H) (hD : va_D A (w s1)) (hS : va_S A s.heap H locs) (hdg : decode cc pc = .ok (.ireturn, 1)) :
    W p l e R s m args below meth c H locs cells slots (MQ below (qb_QI D cl tys (w s2) A r) args s cells slots A) (F0 m pc ls [.int v]) := by
  cases h
  exact rt_I hexec hb hr hlk hK hP hD hS hdg
theorem go_VI {r : Int32} (S : CallFix p m c cc nL s args Ts own) (hok : nw.all nwOK = true) (hM : CtI l y ws rm mc ms D cl tys nw (.ref b :: As) w0 w1 r) (cw : CallW R s args own C index y bytes maxL ret ws rm mc ms n) (hcv : ∃ cell : Cell, H[b]? = some cell ∧ cell.vm.isStatics = false ∧ s.vm.findClass C = some cell.cls) (hN : ∀ w ∈ nw, va_Nw w s) (hK : va_K D cl tys s) (hP : va_P D cl w0 H) (hD : va_D A w0) (hS : va_S A H0 H locs) (hA : ∀ q, H0.size ≤ q → A q)
    (hn : As.length = n) (hsize : ls.size = nL) (hst : st0 = As.reverse ++ .ref b :: rest) (hW : (rest.map fun v => v.category).sum ≤ 8) (hdg : decode cc pc = .ok (.invokevirtual index, 3)) (hf : cells + mc ≤ R.cells ∧ slots + ms ≤ R.slots)
    (kk : ∀ (H1 : Heap) (locs1 : List Loc), va_P D cl w1 H1 → va_D A w1 → va_S A H0 H1 locs1 → W p l e R s m args below meth c H1 locs1 (cells + mc) (slots + ms) Q (F0 m (pc + 3) ls (.int r :: rest))) : W p l e R s m args below meth c H locs cells slots Q (F0 m pc ls st0) := by
  have hF := qb_free hD hS hA
  refine va_calli (va_runV S (hM H.size) cw ⟨qb_blind hok, hcv, qb_start hok hN hK hP hD⟩ rfl hn hsize hst (lv_room hW) hdg hf) hS (fun q _ h => hF q h) hF (fun r' u t H1 locs1 ht hvm hw hB hz1 hk1 hS1 => ?_)
  obtain rfl := hw
  obtain ⟨hP1, hK1, hD1⟩ := hB
  exact kk H1 locs1 (ht ▸ hP1) (hD1.weaken (fun k q hk hq => hF q.1 hq)) hS1
theorem go_NI {r : Int32} (S : CallFix p m c cc nL s args Ts own) (hok : nw.all nwOK = true) (hM : CtI l y ws rm mc ms D cl tys nw (.ref b :: As) w0 w1 r) (cw : va_CN R s args own index y host bytes maxL ret ws rm mc ms n ∧ (Cond.instanceMethod y).before args s = true ∧ (Cond.selects C y y).before args s = true) (hcv : ∃ cell : Cell, H[b]? = some cell ∧ cell.vm.isStatics = false ∧ s.vm.findClass C = some cell.cls) (hN : ∀ w ∈ nw, va_Nw w s) (hK : va_K D cl tys s) (hP : va_P D cl w0 H) (hD : va_D A w0) (hS : va_S A H0 H locs) (hA : ∀ q, H0.size ≤ q → A q)
    (hn : As.length = n) (hsize : ls.size = nL) (hst : st0 = As.reverse ++ .ref b :: rest) (hW : (rest.map fun v => v.category).sum ≤ 8) (hdg : decode cc pc = .ok (.invokevirtual index, 3)) (hf : cells + mc ≤ R.cells ∧ slots + ms ≤ R.slots)
    (kk : ∀ (H1 : Heap) (locs1 : List Loc), va_P D cl w1 H1 → va_D A w1 → va_S A H0 H1 locs1 → W p l e R s m args below meth c H1 locs1 (cells + mc) (slots + ms) Q (F0 m (pc + 3) ls (.int r :: rest))) : W p l e R s m args below meth c H locs cells slots Q (F0 m pc ls st0) := by
  have hF := qb_free hD hS hA
  refine va_calli (va_runVN S (hM H.size) cw ⟨qb_blind hok, hcv, qb_start hok hN hK hP hD⟩ rfl hn hsize hst (lv_room hW) hdg hf) hS (fun q _ h => hF q h) hF (fun r' u t H1 locs1 ht hvm hw hB hz1 hk1 hS1 => ?_)
  obtain rfl := hw
  obtain ⟨hP1, hK1, hD1⟩ := hB
  exact kk H1 locs1 (ht ▸ hP1) (hD1.weaken (fun k q hk hq => hF q.1 hq)) hS1
theorem go_SI {r : Int32} (S : CallFix p m c cc nL s args Ts own) (hok : nw.all nwOK = true) (hM : CtI l y ws rm mc ms D cl tys nw As w0 w1 r) (cw : CallB R s args own index y bytes maxL ret ws rm mc ms n ∧ (Cond.static y).before args s = true) (hN : ∀ w ∈ nw, va_Nw w s) (hK : va_K D cl tys s) (hP : va_P D cl w0 H) (hD : va_D A w0) (hS : va_S A H0 H locs) (hA : ∀ q, H0.size ≤ q → A q)
    (hn : As.length = n) (hsize : ls.size = nL) (hst : st0 = As.reverse ++ rest) (hW : (rest.map fun v => v.category).sum ≤ 8) (hdg : decode cc pc = .ok (.invokestatic index, 3)) (hf : cells + mc ≤ R.cells ∧ slots + ms ≤ R.slots)
    (kk : ∀ (H1 : Heap) (locs1 : List Loc), va_P D cl w1 H1 → va_D A w1 → va_S A H0 H1 locs1 → W p l e R s m args below meth c H1 locs1 (cells + mc) (slots + ms) Q (F0 m (pc + 3) ls (.int r :: rest))) : W p l e R s m args below meth c H locs cells slots Q (F0 m pc ls st0) := by
  have hF := qb_free hD hS hA
  refine va_calli (va_runS S (hM H.size) cw ⟨qb_blind hok, qb_start hok hN hK hP hD⟩ rfl hn hsize hst (lv_room hW) hdg hf) hS (fun q _ h => hF q h) hF (fun r' u t H1 locs1 ht hvm hw hB hz1 hk1 hS1 => ?_)
  obtain rfl := hw
  obtain ⟨hP1, hK1, hD1⟩ := hB
  exact kk H1 locs1 (ht ▸ hP1) (hD1.weaken (fun k q hk hq => hF q.1 hq)) hS1
theorem go_TI {r : Int32} (S : CallFix p m c cc nL s args Ts own) (hok : nw.all nwOK = true) (hM : CtI l y ws rm mc ms D cl tys nw As w0 w1 r) (cw : va_CN R s args own index y host bytes maxL ret ws rm mc ms n ∧ (Cond.static y).before args s = true ∧ True) (hN : ∀ w ∈ nw, va_Nw w s) (hK : va_K D cl tys s) (hP : va_P D cl w0 H) (hD : va_D A w0) (hS : va_S A H0 H locs) (hA : ∀ q, H0.size ≤ q → A q)
    (hn : As.length = n) (hsize : ls.size = nL) (hst : st0 = As.reverse ++ rest) (hW : (rest.map fun v => v.category).sum ≤ 8) (hdg : decode cc pc = .ok (.invokestatic index, 3)) (hf : cells + mc ≤ R.cells ∧ slots + ms ≤ R.slots)
    (kk : ∀ (H1 : Heap) (locs1 : List Loc), va_P D cl w1 H1 → va_D A w1 → va_S A H0 H1 locs1 → W p l e R s m args below meth c H1 locs1 (cells + mc) (slots + ms) Q (F0 m (pc + 3) ls (.int r :: rest))) : W p l e R s m args below meth c H locs cells slots Q (F0 m pc ls st0) := by
  have hF := qb_free hD hS hA
  refine va_calli (va_runSN S (hM H.size) cw ⟨qb_blind hok, qb_start hok hN hK hP hD⟩ rfl hn hsize hst (lv_room hW) hdg hf) hS (fun q _ h => hF q h) hF (fun r' u t H1 locs1 ht hvm hw hB hz1 hk1 hS1 => ?_)
  obtain rfl := hw
  obtain ⟨hP1, hK1, hD1⟩ := hB
  exact kk H1 locs1 (ht ▸ hP1) (hD1.weaken (fun k q hk hq => hF q.1 hq)) hS1
theorem en_Z {r : Int32} (hy : plainName y.cls = true) (hw : ws = Cond.code y cc maxL (some .boolean) :: ws') (hlen : (lg_sl av).length ≤ maxL)
    (body : ∀ (p : Program) (e : Env) (s : State) (m : MethodId) (below : List Frame) (meth : Method) (c : Code) (A : Nat → Prop) (ls : Array Slot) (R : Room) (args : Array Value) (H : Heap) (locs : List Loc), R = rm → p.tables.exec = Jvm.exec → c.code = cc → meth.sig.returnType = some .boolean → meth.locks = false → c.maxLocals = maxL → s.vm.findClass y.cls = some m.cls → (∀ w ∈ ws', w.before args s = true) → va_K D cl tys s → (∀ w ∈ nw, va_Nw w s) → va_P D cl w0 H → va_D A w0 → (∀ q, s.heap.size ≤ q → A q) → va_S A s.heap H locs → lv_has ls maxL (lv_args 0 av) →
      W p l e R s m args below meth c H locs 0 0 (MQ below (qb_QI D cl tys w1 A r) args s mc ms A) (F0 m 0 ls [])) : CtI l y ws rm mc ms D cl tys nw av w0 w1 r := by
  intro sz
  refine Met.ofW hy hw ?_
  intro p e s m args below meth c s₁ B hml hv
  obtain ⟨rfl, hsz, hP, hK, hN, hD0⟩ := hv
  subst hsz
  have hD := hD0.self (sz := s.heap.size)
  have hl := lv_entry av (n := maxL) hlen
  have hts := atoms_spec (ws := ws) B.pre
  rw [hw] at hts
  rw [lg_entry_eq]
  exact body p e s m below meth c _ _ _ _ _ _ rfl B.exec B.bytes B.returns B.notSynchronized hml (findClass_of_methodNamed B.named) (fun w h => hts w (List.mem_cons_of_mem _ h)) hK hN hP hD (fun q h => Or.inr h) va_S.rf hl
theorem rt_Z {r : Int32} (hexec : p.tables.exec = Jvm.exec) (hb : c.code = cc) (hr : meth.sig.returnType = some .boolean) (hlk : meth.locks = false) (hK : va_K D cl tys s) (hP : va_P D cl w1 H) (hD : va_D A w1) (hS : va_S A s.heap H locs) (hn : narrow .boolean (.int r) = .int r) (hdg : decode cc pc = .ok (.ireturn, 1)) :
    W p l e R s m args below meth c H locs cells slots (MQ below (qb_QI D cl tys w1 A r) args s cells slots A) (F0 m pc ls [.int r]) :=
  W.zret hexec hb hr hn (fun t ht hW => ⟨⟨r, (), rfl, rfl, by rw [ht]; exact hP, va_K.moved hW.alike hK, hD⟩, hS.F ht⟩) hS.2.2 hdg hlk
theorem rf_Z {S : Type} {v r : Int32} {s1 s2 : S} {w : S → va_W} (h : some (v, s1) = some (r, s2)) (hexec : p.tables.exec = Jvm.exec) (hb : c.code = cc) (hr : meth.sig.returnType = some .boolean) (hlk : meth.locks = false) (hK : va_K D cl tys s) (hP : va_P D cl (w s1) H) (hD : va_D A (w s1)) (hS : va_S A s.heap H locs) (hn : narrow .boolean (.int v) = .int v) (hdg : decode cc pc = .ok (.ireturn, 1)) :
    W p l e R s m args below meth c H locs cells slots (MQ below (qb_QI D cl tys (w s2) A r) args s cells slots A) (F0 m pc ls [.int v]) := by
  cases h
  exact rt_Z hexec hb hr hlk hK hP hD hS hn hdg
def qb_QL (D : va_G) (cl : List vw_C) (tys : List (ClassId × FieldType)) (w1 : va_W) (A : Nat → Prop) (r : Int64) : Array Value → State → Outcome → State → Prop := va_Ql (fun (r' : Int64) (_ : Unit) => r' = r) (fun _ t => va_P D cl w1 t.heap ∧ va_K D cl tys t ∧ va_D A w1) A
def CtL (l : Launch) (y : MethodName) (ws : List Cond) (rm : Room) (mc ms : Nat) (D : va_G) (cl : List vw_C) (tys : List (ClassId × FieldType)) (nw : List Cond) (av : List Value) (w0 w1 : va_W) (r : Int64) : Prop :=
  ∀ sz : Nat, Met l y ws rm (qb_Pc D cl tys nw av w0 sz) (qb_QL D cl tys w1 (va_A w0 sz) r) mc ms (va_A w0 sz)
theorem en_L {r : Int64} (hy : plainName y.cls = true) (hw : ws = Cond.code y cc maxL (some .long) :: ws') (hlen : (lg_sl av).length ≤ maxL)
    (body : ∀ (p : Program) (e : Env) (s : State) (m : MethodId) (below : List Frame) (meth : Method) (c : Code) (A : Nat → Prop) (ls : Array Slot) (R : Room) (args : Array Value) (H : Heap) (locs : List Loc), R = rm → p.tables.exec = Jvm.exec → c.code = cc → meth.sig.returnType = some .long → meth.locks = false → c.maxLocals = maxL → s.vm.findClass y.cls = some m.cls → (∀ w ∈ ws', w.before args s = true) → va_K D cl tys s → (∀ w ∈ nw, va_Nw w s) → va_P D cl w0 H → va_D A w0 → (∀ q, s.heap.size ≤ q → A q) → va_S A s.heap H locs → lv_has ls maxL (lv_args 0 av) →
      W p l e R s m args below meth c H locs 0 0 (MQ below (qb_QL D cl tys w1 A r) args s mc ms A) (F0 m 0 ls [])) : CtL l y ws rm mc ms D cl tys nw av w0 w1 r := by
  intro sz
  refine Met.ofW hy hw ?_
  intro p e s m args below meth c s₁ B hml hv
  obtain ⟨rfl, hsz, hP, hK, hN, hD0⟩ := hv
  subst hsz
  have hD := hD0.self (sz := s.heap.size)
  have hl := lv_entry av (n := maxL) hlen
  have hts := atoms_spec (ws := ws) B.pre
  rw [hw] at hts
  rw [lg_entry_eq]
  exact body p e s m below meth c _ _ _ _ _ _ rfl B.exec B.bytes B.returns B.notSynchronized hml (findClass_of_methodNamed B.named) (fun w h => hts w (List.mem_cons_of_mem _ h)) hK hN hP hD (fun q h => Or.inr h) va_S.rf hl
theorem rt_L {r : Int64} (hexec : p.tables.exec = Jvm.exec) (hb : c.code = cc) (hr : meth.sig.returnType = some .long) (hlk : meth.locks = false) (hK : va_K D cl tys s) (hP : va_P D cl w1 H) (hD : va_D A w1) (hS : va_S A s.heap H locs) (hdg : decode cc pc = .ok (.lreturn, 1)) :
    W p l e R s m args below meth c H locs cells slots (MQ below (qb_QL D cl tys w1 A r) args s cells slots A) (F0 m pc ls [.long r]) :=
  W.lret hexec hb hr (fun t ht hW => ⟨⟨r, (), rfl, rfl, by rw [ht]; exact hP, va_K.moved hW.alike hK, hD⟩, hS.F ht⟩) hS.2.2 hdg hlk
theorem rf_L {S : Type} {v r : Int64} {s1 s2 : S} {w : S → va_W} (h : some (v, s1) = some (r, s2)) (hexec : p.tables.exec = Jvm.exec) (hb : c.code = cc) (hr : meth.sig.returnType = some .long) (hlk : meth.locks = false) (hK : va_K D cl tys s) (hP : va_P D cl (w s1) H) (hD : va_D A (w s1)) (hS : va_S A s.heap H locs) (hdg : decode cc pc = .ok (.lreturn, 1)) :
    W p l e R s m args below meth c H locs cells slots (MQ below (qb_QL D cl tys (w s2) A r) args s cells slots A) (F0 m pc ls [.long v]) := by
  cases h
  exact rt_L hexec hb hr hlk hK hP hD hS hdg
theorem go_VL {r : Int64} (S : CallFix p m c cc nL s args Ts own) (hok : nw.all nwOK = true) (hM : CtL l y ws rm mc ms D cl tys nw (.ref b :: As) w0 w1 r) (cw : CallW R s args own C index y bytes maxL ret ws rm mc ms n) (hcv : ∃ cell : Cell, H[b]? = some cell ∧ cell.vm.isStatics = false ∧ s.vm.findClass C = some cell.cls) (hN : ∀ w ∈ nw, va_Nw w s) (hK : va_K D cl tys s) (hP : va_P D cl w0 H) (hD : va_D A w0) (hS : va_S A H0 H locs) (hA : ∀ q, H0.size ≤ q → A q)
    (hn : As.length = n) (hsize : ls.size = nL) (hst : st0 = As.reverse ++ .ref b :: rest) (hW : (rest.map fun v => v.category).sum ≤ 8) (hdg : decode cc pc = .ok (.invokevirtual index, 3)) (hf : cells + mc ≤ R.cells ∧ slots + ms ≤ R.slots)
    (kk : ∀ (H1 : Heap) (locs1 : List Loc), va_P D cl w1 H1 → va_D A w1 → va_S A H0 H1 locs1 → W p l e R s m args below meth c H1 locs1 (cells + mc) (slots + ms) Q (F0 m (pc + 3) ls (.long r :: rest))) : W p l e R s m args below meth c H locs cells slots Q (F0 m pc ls st0) := by
  have hF := qb_free hD hS hA
  refine va_calll (va_runV S (hM H.size) cw ⟨qb_blind hok, hcv, qb_start hok hN hK hP hD⟩ rfl hn hsize hst (lv_room hW) hdg hf) hS (fun q _ h => hF q h) hF (fun r' u t H1 locs1 ht hvm hw hB hz1 hk1 hS1 => ?_)
  obtain rfl := hw
  obtain ⟨hP1, hK1, hD1⟩ := hB
  exact kk H1 locs1 (ht ▸ hP1) (hD1.weaken (fun k q hk hq => hF q.1 hq)) hS1
theorem go_NL {r : Int64} (S : CallFix p m c cc nL s args Ts own) (hok : nw.all nwOK = true) (hM : CtL l y ws rm mc ms D cl tys nw (.ref b :: As) w0 w1 r) (cw : va_CN R s args own index y host bytes maxL ret ws rm mc ms n ∧ (Cond.instanceMethod y).before args s = true ∧ (Cond.selects C y y).before args s = true) (hcv : ∃ cell : Cell, H[b]? = some cell ∧ cell.vm.isStatics = false ∧ s.vm.findClass C = some cell.cls) (hN : ∀ w ∈ nw, va_Nw w s) (hK : va_K D cl tys s) (hP : va_P D cl w0 H) (hD : va_D A w0) (hS : va_S A H0 H locs) (hA : ∀ q, H0.size ≤ q → A q)
    (hn : As.length = n) (hsize : ls.size = nL) (hst : st0 = As.reverse ++ .ref b :: rest) (hW : (rest.map fun v => v.category).sum ≤ 8) (hdg : decode cc pc = .ok (.invokevirtual index, 3)) (hf : cells + mc ≤ R.cells ∧ slots + ms ≤ R.slots)
    (kk : ∀ (H1 : Heap) (locs1 : List Loc), va_P D cl w1 H1 → va_D A w1 → va_S A H0 H1 locs1 → W p l e R s m args below meth c H1 locs1 (cells + mc) (slots + ms) Q (F0 m (pc + 3) ls (.long r :: rest))) : W p l e R s m args below meth c H locs cells slots Q (F0 m pc ls st0) := by
  have hF := qb_free hD hS hA
  refine va_calll (va_runVN S (hM H.size) cw ⟨qb_blind hok, hcv, qb_start hok hN hK hP hD⟩ rfl hn hsize hst (lv_room hW) hdg hf) hS (fun q _ h => hF q h) hF (fun r' u t H1 locs1 ht hvm hw hB hz1 hk1 hS1 => ?_)
  obtain rfl := hw
  obtain ⟨hP1, hK1, hD1⟩ := hB
  exact kk H1 locs1 (ht ▸ hP1) (hD1.weaken (fun k q hk hq => hF q.1 hq)) hS1
theorem go_SL {r : Int64} (S : CallFix p m c cc nL s args Ts own) (hok : nw.all nwOK = true) (hM : CtL l y ws rm mc ms D cl tys nw As w0 w1 r) (cw : CallB R s args own index y bytes maxL ret ws rm mc ms n ∧ (Cond.static y).before args s = true) (hN : ∀ w ∈ nw, va_Nw w s) (hK : va_K D cl tys s) (hP : va_P D cl w0 H) (hD : va_D A w0) (hS : va_S A H0 H locs) (hA : ∀ q, H0.size ≤ q → A q)
    (hn : As.length = n) (hsize : ls.size = nL) (hst : st0 = As.reverse ++ rest) (hW : (rest.map fun v => v.category).sum ≤ 8) (hdg : decode cc pc = .ok (.invokestatic index, 3)) (hf : cells + mc ≤ R.cells ∧ slots + ms ≤ R.slots)
    (kk : ∀ (H1 : Heap) (locs1 : List Loc), va_P D cl w1 H1 → va_D A w1 → va_S A H0 H1 locs1 → W p l e R s m args below meth c H1 locs1 (cells + mc) (slots + ms) Q (F0 m (pc + 3) ls (.long r :: rest))) : W p l e R s m args below meth c H locs cells slots Q (F0 m pc ls st0) := by
  have hF := qb_free hD hS hA
  refine va_calll (va_runS S (hM H.size) cw ⟨qb_blind hok, qb_start hok hN hK hP hD⟩ rfl hn hsize hst (lv_room hW) hdg hf) hS (fun q _ h => hF q h) hF (fun r' u t H1 locs1 ht hvm hw hB hz1 hk1 hS1 => ?_)
  obtain rfl := hw
  obtain ⟨hP1, hK1, hD1⟩ := hB
  exact kk H1 locs1 (ht ▸ hP1) (hD1.weaken (fun k q hk hq => hF q.1 hq)) hS1
theorem go_TL {r : Int64} (S : CallFix p m c cc nL s args Ts own) (hok : nw.all nwOK = true) (hM : CtL l y ws rm mc ms D cl tys nw As w0 w1 r) (cw : va_CN R s args own index y host bytes maxL ret ws rm mc ms n ∧ (Cond.static y).before args s = true ∧ True) (hN : ∀ w ∈ nw, va_Nw w s) (hK : va_K D cl tys s) (hP : va_P D cl w0 H) (hD : va_D A w0) (hS : va_S A H0 H locs) (hA : ∀ q, H0.size ≤ q → A q)
    (hn : As.length = n) (hsize : ls.size = nL) (hst : st0 = As.reverse ++ rest) (hW : (rest.map fun v => v.category).sum ≤ 8) (hdg : decode cc pc = .ok (.invokestatic index, 3)) (hf : cells + mc ≤ R.cells ∧ slots + ms ≤ R.slots)
    (kk : ∀ (H1 : Heap) (locs1 : List Loc), va_P D cl w1 H1 → va_D A w1 → va_S A H0 H1 locs1 → W p l e R s m args below meth c H1 locs1 (cells + mc) (slots + ms) Q (F0 m (pc + 3) ls (.long r :: rest))) : W p l e R s m args below meth c H locs cells slots Q (F0 m pc ls st0) := by
  have hF := qb_free hD hS hA
  refine va_calll (va_runSN S (hM H.size) cw ⟨qb_blind hok, qb_start hok hN hK hP hD⟩ rfl hn hsize hst (lv_room hW) hdg hf) hS (fun q _ h => hF q h) hF (fun r' u t H1 locs1 ht hvm hw hB hz1 hk1 hS1 => ?_)
  obtain rfl := hw
  obtain ⟨hP1, hK1, hD1⟩ := hB
  exact kk H1 locs1 (ht ▸ hP1) (hD1.weaken (fun k q hk hq => hF q.1 hq)) hS1
def qb_QV (D : va_G) (cl : List vw_C) (tys : List (ClassId × FieldType)) (w1 : va_W) (A : Nat → Prop) : Array Value → State → Outcome → State → Prop := va_Qv (fun (_ : Unit) => True) (fun _ t => va_P D cl w1 t.heap ∧ va_K D cl tys t ∧ va_D A w1) A
def CtV (l : Launch) (y : MethodName) (ws : List Cond) (rm : Room) (mc ms : Nat) (D : va_G) (cl : List vw_C) (tys : List (ClassId × FieldType)) (nw : List Cond) (av : List Value) (w0 w1 : va_W) : Prop :=
  ∀ sz : Nat, Met l y ws rm (qb_Pc D cl tys nw av w0 sz) (qb_QV D cl tys w1 (va_A w0 sz)) mc ms (va_A w0 sz)
theorem en_V (hy : plainName y.cls = true) (hw : ws = Cond.code y cc maxL (none) :: ws') (hlen : (lg_sl av).length ≤ maxL)
    (body : ∀ (p : Program) (e : Env) (s : State) (m : MethodId) (below : List Frame) (meth : Method) (c : Code) (A : Nat → Prop) (ls : Array Slot) (R : Room) (args : Array Value) (H : Heap) (locs : List Loc), R = rm → p.tables.exec = Jvm.exec → c.code = cc → meth.sig.returnType = none → meth.locks = false → c.maxLocals = maxL → s.vm.findClass y.cls = some m.cls → (∀ w ∈ ws', w.before args s = true) → va_K D cl tys s → (∀ w ∈ nw, va_Nw w s) → va_P D cl w0 H → va_D A w0 → (∀ q, s.heap.size ≤ q → A q) → va_S A s.heap H locs → lv_has ls maxL (lv_args 0 av) →
      W p l e R s m args below meth c H locs 0 0 (MQ below (qb_QV D cl tys w1 A) args s mc ms A) (F0 m 0 ls [])) : CtV l y ws rm mc ms D cl tys nw av w0 w1 := by
  intro sz
  refine Met.ofW hy hw ?_
  intro p e s m args below meth c s₁ B hml hv
  obtain ⟨rfl, hsz, hP, hK, hN, hD0⟩ := hv
  subst hsz
  have hD := hD0.self (sz := s.heap.size)
  have hl := lv_entry av (n := maxL) hlen
  have hts := atoms_spec (ws := ws) B.pre
  rw [hw] at hts
  rw [lg_entry_eq]
  exact body p e s m below meth c _ _ _ _ _ _ rfl B.exec B.bytes B.returns B.notSynchronized hml (findClass_of_methodNamed B.named) (fun w h => hts w (List.mem_cons_of_mem _ h)) hK hN hP hD (fun q h => Or.inr h) va_S.rf hl
theorem rt_V (hexec : p.tables.exec = Jvm.exec) (hb : c.code = cc) (hr : meth.sig.returnType = none) (hlk : meth.locks = false) (hK : va_K D cl tys s) (hP : va_P D cl w1 H) (hD : va_D A w1) (hS : va_S A s.heap H locs) (hdg : decode cc pc = .ok (.return_, 1)) :
    W p l e R s m args below meth c H locs cells slots (MQ below (qb_QV D cl tys w1 A) args s cells slots A) (F0 m pc ls []) :=
  W.vret hexec hb hr (fun t ht hW => ⟨⟨(), rfl, trivial, by rw [ht]; exact hP, va_K.moved hW.alike hK, hD⟩, hS.F ht⟩) hS.2.2 hdg hlk
theorem rf_V {S : Type} {s1 s2 : S} {w : S → va_W} (h : some ((), s1) = some ((), s2)) (hexec : p.tables.exec = Jvm.exec) (hb : c.code = cc) (hr : meth.sig.returnType = none) (hlk : meth.locks = false) (hK : va_K D cl tys s) (hP : va_P D cl (w s1) H) (hD : va_D A (w s1)) (hS : va_S A s.heap H locs) (hdg : decode cc pc = .ok (.return_, 1)) :
    W p l e R s m args below meth c H locs cells slots (MQ below (qb_QV D cl tys (w s2) A) args s cells slots A) (F0 m pc ls []) := by
  cases h
  exact rt_V hexec hb hr hlk hK hP hD hS hdg
theorem go_VV (S : CallFix p m c cc nL s args Ts own) (hok : nw.all nwOK = true) (hM : CtV l y ws rm mc ms D cl tys nw (.ref b :: As) w0 w1) (cw : CallW R s args own C index y bytes maxL ret ws rm mc ms n) (hcv : ∃ cell : Cell, H[b]? = some cell ∧ cell.vm.isStatics = false ∧ s.vm.findClass C = some cell.cls) (hN : ∀ w ∈ nw, va_Nw w s) (hK : va_K D cl tys s) (hP : va_P D cl w0 H) (hD : va_D A w0) (hS : va_S A H0 H locs) (hA : ∀ q, H0.size ≤ q → A q)
    (hn : As.length = n) (hsize : ls.size = nL) (hst : st0 = As.reverse ++ .ref b :: rest) (hW : (rest.map fun v => v.category).sum ≤ 8) (hdg : decode cc pc = .ok (.invokevirtual index, 3)) (hf : cells + mc ≤ R.cells ∧ slots + ms ≤ R.slots)
    (kk : ∀ (H1 : Heap) (locs1 : List Loc), va_P D cl w1 H1 → va_D A w1 → va_S A H0 H1 locs1 → W p l e R s m args below meth c H1 locs1 (cells + mc) (slots + ms) Q (F0 m (pc + 3) ls (rest))) : W p l e R s m args below meth c H locs cells slots Q (F0 m pc ls st0) := by
  have hF := qb_free hD hS hA
  refine va_callv (va_runV S (hM H.size) cw ⟨qb_blind hok, hcv, qb_start hok hN hK hP hD⟩ rfl hn hsize hst (lv_room hW) hdg hf) hS (fun q _ h => hF q h) hF (fun u t H1 locs1 ht hvm hw hB hz1 hk1 hS1 => ?_)
  obtain ⟨hP1, hK1, hD1⟩ := hB
  exact kk H1 locs1 (ht ▸ hP1) (hD1.weaken (fun k q hk hq => hF q.1 hq)) hS1
theorem go_NV (S : CallFix p m c cc nL s args Ts own) (hok : nw.all nwOK = true) (hM : CtV l y ws rm mc ms D cl tys nw (.ref b :: As) w0 w1) (cw : va_CN R s args own index y host bytes maxL ret ws rm mc ms n ∧ (Cond.instanceMethod y).before args s = true ∧ (Cond.selects C y y).before args s = true) (hcv : ∃ cell : Cell, H[b]? = some cell ∧ cell.vm.isStatics = false ∧ s.vm.findClass C = some cell.cls) (hN : ∀ w ∈ nw, va_Nw w s) (hK : va_K D cl tys s) (hP : va_P D cl w0 H) (hD : va_D A w0) (hS : va_S A H0 H locs) (hA : ∀ q, H0.size ≤ q → A q)
    (hn : As.length = n) (hsize : ls.size = nL) (hst : st0 = As.reverse ++ .ref b :: rest) (hW : (rest.map fun v => v.category).sum ≤ 8) (hdg : decode cc pc = .ok (.invokevirtual index, 3)) (hf : cells + mc ≤ R.cells ∧ slots + ms ≤ R.slots)
    (kk : ∀ (H1 : Heap) (locs1 : List Loc), va_P D cl w1 H1 → va_D A w1 → va_S A H0 H1 locs1 → W p l e R s m args below meth c H1 locs1 (cells + mc) (slots + ms) Q (F0 m (pc + 3) ls (rest))) : W p l e R s m args below meth c H locs cells slots Q (F0 m pc ls st0) := by
  have hF := qb_free hD hS hA
  refine va_callv (va_runVN S (hM H.size) cw ⟨qb_blind hok, hcv, qb_start hok hN hK hP hD⟩ rfl hn hsize hst (lv_room hW) hdg hf) hS (fun q _ h => hF q h) hF (fun u t H1 locs1 ht hvm hw hB hz1 hk1 hS1 => ?_)
  obtain ⟨hP1, hK1, hD1⟩ := hB
  exact kk H1 locs1 (ht ▸ hP1) (hD1.weaken (fun k q hk hq => hF q.1 hq)) hS1
theorem go_SV (S : CallFix p m c cc nL s args Ts own) (hok : nw.all nwOK = true) (hM : CtV l y ws rm mc ms D cl tys nw As w0 w1) (cw : CallB R s args own index y bytes maxL ret ws rm mc ms n ∧ (Cond.static y).before args s = true) (hN : ∀ w ∈ nw, va_Nw w s) (hK : va_K D cl tys s) (hP : va_P D cl w0 H) (hD : va_D A w0) (hS : va_S A H0 H locs) (hA : ∀ q, H0.size ≤ q → A q)
    (hn : As.length = n) (hsize : ls.size = nL) (hst : st0 = As.reverse ++ rest) (hW : (rest.map fun v => v.category).sum ≤ 8) (hdg : decode cc pc = .ok (.invokestatic index, 3)) (hf : cells + mc ≤ R.cells ∧ slots + ms ≤ R.slots)
    (kk : ∀ (H1 : Heap) (locs1 : List Loc), va_P D cl w1 H1 → va_D A w1 → va_S A H0 H1 locs1 → W p l e R s m args below meth c H1 locs1 (cells + mc) (slots + ms) Q (F0 m (pc + 3) ls (rest))) : W p l e R s m args below meth c H locs cells slots Q (F0 m pc ls st0) := by
  have hF := qb_free hD hS hA
  refine va_callv (va_runS S (hM H.size) cw ⟨qb_blind hok, qb_start hok hN hK hP hD⟩ rfl hn hsize hst (lv_room hW) hdg hf) hS (fun q _ h => hF q h) hF (fun u t H1 locs1 ht hvm hw hB hz1 hk1 hS1 => ?_)
  obtain ⟨hP1, hK1, hD1⟩ := hB
  exact kk H1 locs1 (ht ▸ hP1) (hD1.weaken (fun k q hk hq => hF q.1 hq)) hS1
theorem go_TV (S : CallFix p m c cc nL s args Ts own) (hok : nw.all nwOK = true) (hM : CtV l y ws rm mc ms D cl tys nw As w0 w1) (cw : va_CN R s args own index y host bytes maxL ret ws rm mc ms n ∧ (Cond.static y).before args s = true ∧ True) (hN : ∀ w ∈ nw, va_Nw w s) (hK : va_K D cl tys s) (hP : va_P D cl w0 H) (hD : va_D A w0) (hS : va_S A H0 H locs) (hA : ∀ q, H0.size ≤ q → A q)
    (hn : As.length = n) (hsize : ls.size = nL) (hst : st0 = As.reverse ++ rest) (hW : (rest.map fun v => v.category).sum ≤ 8) (hdg : decode cc pc = .ok (.invokestatic index, 3)) (hf : cells + mc ≤ R.cells ∧ slots + ms ≤ R.slots)
    (kk : ∀ (H1 : Heap) (locs1 : List Loc), va_P D cl w1 H1 → va_D A w1 → va_S A H0 H1 locs1 → W p l e R s m args below meth c H1 locs1 (cells + mc) (slots + ms) Q (F0 m (pc + 3) ls (rest))) : W p l e R s m args below meth c H locs cells slots Q (F0 m pc ls st0) := by
  have hF := qb_free hD hS hA
  refine va_callv (va_runSN S (hM H.size) cw ⟨qb_blind hok, qb_start hok hN hK hP hD⟩ rfl hn hsize hst (lv_room hW) hdg hf) hS (fun q _ h => hF q h) hF (fun u t H1 locs1 ht hvm hw hB hz1 hk1 hS1 => ?_)
  obtain ⟨hP1, hK1, hD1⟩ := hB
  exact kk H1 locs1 (ht ▸ hP1) (hD1.weaken (fun k q hk hq => hF q.1 hq)) hS1
def qb_QG (D : va_G) (cl : List vw_C) (tys : List (ClassId × FieldType)) (W1 : (Nat → Nat) → va_W) (A : Nat → Prop) (r : Int32) : Array Value → State → Outcome → State → Prop := va_Qi (fun (r' : Int32) (_ : Nat → Nat) => r' = r) (fun u t => va_P D cl (W1 u) t.heap ∧ va_K D cl tys t ∧ va_D A (W1 u)) A
def CtG (l : Launch) (y : MethodName) (ws : List Cond) (rm : Room) (mc ms : Nat) (D : va_G) (cl : List vw_C) (tys : List (ClassId × FieldType)) (nw : List Cond) (av : List Value) (w0 : va_W) (W1 : (Nat → Nat) → va_W) (r : Int32) : Prop :=
  ∀ sz : Nat, Met l y ws rm (qb_Pc D cl tys nw av w0 sz) (qb_QG D cl tys W1 (va_A w0 sz) r) mc ms (va_A w0 sz)
variable {W1 : (Nat → Nat) → va_W}
theorem en_G {r : Int32} (hy : plainName y.cls = true) (hw : ws = Cond.code y cc maxL (some .int) :: ws') (hlen : (lg_sl av).length ≤ maxL)
    (body : ∀ (p : Program) (e : Env) (s : State) (m : MethodId) (below : List Frame) (meth : Method) (c : Code) (A : Nat → Prop) (ls : Array Slot) (R : Room) (args : Array Value) (H : Heap) (locs : List Loc), R = rm → p.tables.exec = Jvm.exec → c.code = cc → meth.sig.returnType = some .int → meth.locks = false → c.maxLocals = maxL → s.vm.findClass y.cls = some m.cls → (∀ w ∈ ws', w.before args s = true) → va_K D cl tys s → (∀ w ∈ nw, va_Nw w s) → va_P D cl w0 H → va_D A w0 → (∀ q, s.heap.size ≤ q → A q) → va_S A s.heap H locs → lv_has ls maxL (lv_args 0 av) →
      W p l e R s m args below meth c H locs 0 0 (MQ below (qb_QG D cl tys W1 A r) args s mc ms A) (F0 m 0 ls [])) : CtG l y ws rm mc ms D cl tys nw av w0 W1 r := by
  intro sz
  refine Met.ofW hy hw ?_
  intro p e s m args below meth c s₁ B hml hv
  obtain ⟨rfl, hsz, hP, hK, hN, hD0⟩ := hv
  subst hsz
  have hD := hD0.self (sz := s.heap.size)
  have hl := lv_entry av (n := maxL) hlen
  have hts := atoms_spec (ws := ws) B.pre
  rw [hw] at hts
  rw [lg_entry_eq]
  exact body p e s m below meth c _ _ _ _ _ _ rfl B.exec B.bytes B.returns B.notSynchronized hml (findClass_of_methodNamed B.named) (fun w h => hts w (List.mem_cons_of_mem _ h)) hK hN hP hD (fun q h => Or.inr h) va_S.rf hl
theorem rf_G {S : Type} {v r : Int32} {g1 g2 : Bool} {s1 s2 : S} {w : Bool → S → (Nat → Nat) → va_W} {x : Nat → Nat} {xf : (Nat → Nat) → Nat → Nat} {u : Nat → Nat} (h : some (v, g1, s1) = some (r, g2, s2)) (hx : x = xf u) (hexec : p.tables.exec = Jvm.exec) (hb : c.code = cc) (hr : meth.sig.returnType = some .int) (hlk : meth.locks = false) (hK : va_K D cl tys s) (hP : va_P D cl (w g1 s1 x) H) (hD : va_D A (w g1 s1 x)) (hS : va_S A s.heap H locs) (hdg : decode cc pc = .ok (.ireturn, 1)) :
    W p l e R s m args below meth c H locs cells slots (MQ below (qb_QG D cl tys (fun u => w g2 s2 (xf u)) A r) args s cells slots A) (F0 m pc ls [.int v]) := by
  cases h
  subst hx
  exact W.iret hexec hb hr (fun t ht hW => ⟨⟨v, u, rfl, rfl, by rw [ht]; exact hP, va_K.moved hW.alike hK, hD⟩, hS.F ht⟩) hS.2.2 hdg hlk
theorem go_VG {r : Int32} (S : CallFix p m c cc nL s args Ts own) (hok : nw.all nwOK = true) (hM : CtG l y ws rm mc ms D cl tys nw (.ref b :: As) w0 W1 r) (cw : CallW R s args own C index y bytes maxL ret ws rm mc ms n) (hcv : ∃ cell : Cell, H[b]? = some cell ∧ cell.vm.isStatics = false ∧ s.vm.findClass C = some cell.cls) (hN : ∀ w ∈ nw, va_Nw w s) (hK : va_K D cl tys s) (hP : va_P D cl w0 H) (hD : va_D A w0) (hS : va_S A H0 H locs) (hA : ∀ q, H0.size ≤ q → A q)
    (hn : As.length = n) (hsize : ls.size = nL) (hst : st0 = As.reverse ++ .ref b :: rest) (hW : (rest.map fun v => v.category).sum ≤ 8) (hdg : decode cc pc = .ok (.invokevirtual index, 3)) (hf : cells + mc ≤ R.cells ∧ slots + ms ≤ R.slots)
    (kk : ∀ (u : Nat → Nat) (H1 : Heap) (locs1 : List Loc), va_P D cl (W1 u) H1 → va_D A (W1 u) → va_S A H0 H1 locs1 → W p l e R s m args below meth c H1 locs1 (cells + mc) (slots + ms) Q (F0 m (pc + 3) ls (.int r :: rest))) : W p l e R s m args below meth c H locs cells slots Q (F0 m pc ls st0) := by
  have hF := qb_free hD hS hA
  refine va_calli (va_runV S (hM H.size) cw ⟨qb_blind hok, hcv, qb_start hok hN hK hP hD⟩ rfl hn hsize hst (lv_room hW) hdg hf) hS (fun q _ h => hF q h) hF (fun r' u t H1 locs1 ht hvm hw hB hz1 hk1 hS1 => ?_)
  obtain rfl := hw
  obtain ⟨hP1, hK1, hD1⟩ := hB
  exact kk u H1 locs1 (ht ▸ hP1) (hD1.weaken (fun k q hk hq => hF q.1 hq)) hS1
end QB

/-! the tables' words that every method may use: those that a call keeps (own rows) -/
def BIG : List Cond := lw_tbl.filter goodWord
theorem bg_in {w : Cond} (h : w ∈ lw_tbl) (g : goodWord w = true) : w ∈ BIG := List.mem_filter.mpr ⟨h, g⟩
theorem bg_t {w : Cond} (h : w ∈ tables_1) (g : goodWord w = true) : w ∈ BIG := bg_in (List.mem_append_right _ h) g
theorem bg_out {w : Cond} (h : w ∈ BIG) : w ∈ lw_tbl := (List.mem_filter.mp h).1
theorem bg_good : GoodIn BIG BIG := fun w h => ⟨h, good_of_word (List.mem_filter.mp h).2⟩
theorem bg_law : GoodIn lw_tbl BIG := fun w h => ⟨bg_out h, good_of_word (List.mem_filter.mp h).2⟩
theorem bg_cons {c : Cond} (h : c ∈ BIG) : GoodIn BIG (c :: BIG) := fun w hw => by
  rcases List.mem_cons.mp hw with e | e
  · subst e; exact bg_good _ h
  · exact bg_good _ e
def kwV (C : String) (y : MethodName) (bytes : ByteArray) (maxL : Nat) (ret : Option FieldType) (n : Nat) : Prop := Cond.code y bytes maxL ret ∈ BIG ∧ Cond.instanceMethod y ∈ BIG ∧ Cond.selects C y y ∈ BIG ∧ Cond.initialized C ∈ BIG ∧ y.cls = C ∧ y.cls ≠ "java/lang/invoke/MethodHandle" ∧ y.cls ≠ "java/lang/invoke/VarHandle" ∧ (parseMethodDescriptor y.desc).map (fun d => d.parameters.length) = some n
def kwS (y : MethodName) (bytes : ByteArray) (maxL : Nat) (ret : Option FieldType) (n : Nat) : Prop := Cond.code y bytes maxL ret ∈ BIG ∧ Cond.static y ∈ BIG ∧ Cond.initialized y.cls ∈ BIG ∧ y.cls ≠ "java/lang/invoke/MethodHandle" ∧ y.cls ≠ "java/lang/invoke/VarHandle" ∧ (parseMethodDescriptor y.desc).map (fun d => d.parameters.length) = some n
section QC
variable {R : Room} {s : State} {args : Array Value} {y : MethodName} {bytes : ByteArray} {maxL mc ms n index : Nat} {ret : Option FieldType} {rm : Room} {own C host : String} {nw : List Cond}
theorem cwx_V (hB : ∀ w ∈ BIG, w.before args s = true) (hl : Cond.methodLink own index y ∈ BIG) (k : kwV C y bytes maxL ret n) (hR : rm.frames + 1 ≤ R.frames ∧ 8 + (maxL + 11) + rm.locals ≤ R.locals) (hrc : rm.cells = mc) (hrs : rm.slots = ms) : CallW R s args own C index y bytes maxL ret (Cond.code y bytes maxL ret :: BIG) rm mc ms n := by
  obtain ⟨k1, k2, k3, k4, k5, k6, k7, k8⟩ := k
  exact ⟨callB_of n hB (bg_cons k1) rfl hrc hrs (by rw [k5]; exact hB _ k4) (hB _ hl) ⟨k6, k7, k8⟩ hR, hB _ k2, hB _ k3⟩
theorem cwx_N (hB : ∀ w ∈ BIG, w.before args s = true) (hN : ∀ w ∈ nw, va_Nw w s) (hl : Cond.methodLinkNest own index y host ∈ nw) (k : kwV C y bytes maxL ret n) (hR : rm.frames + 1 ≤ R.frames ∧ 8 + (maxL + 11) + rm.locals ≤ R.locals) (hrc : rm.cells = mc) (hrs : rm.slots = ms) : va_CN R s args own index y host bytes maxL ret (Cond.code y bytes maxL ret :: BIG) rm mc ms n ∧ (Cond.instanceMethod y).before args s = true ∧ (Cond.selects C y y).before args s = true := by
  obtain ⟨k1, k2, k3, k4, k5, k6, k7, k8⟩ := k
  exact ⟨va_cnB n hB (bg_cons k1) rfl hrc hrs (hN _ hl) (by rw [k5]; exact hB _ k4) ⟨k6, k7, k8⟩ hR, hB _ k2, hB _ k3⟩
theorem cwx_S (hB : ∀ w ∈ BIG, w.before args s = true) (hl : Cond.methodLink own index y ∈ BIG) (k : kwS y bytes maxL ret n) (hR : rm.frames + 1 ≤ R.frames ∧ 8 + (maxL + 11) + rm.locals ≤ R.locals) (hrc : rm.cells = mc) (hrs : rm.slots = ms) : CallB R s args own index y bytes maxL ret (Cond.code y bytes maxL ret :: BIG) rm mc ms n ∧ (Cond.static y).before args s = true := by
  obtain ⟨k1, k2, k4, k6, k7, k8⟩ := k
  exact ⟨callB_of n hB (bg_cons k1) rfl hrc hrs (hB _ k4) (hB _ hl) ⟨k6, k7, k8⟩ hR, hB _ k2⟩
end QC

