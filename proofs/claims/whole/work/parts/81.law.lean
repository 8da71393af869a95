/-! THE CLAIM OUT OF ONE WALK OF THE LAW'S BODY. Your part is whole_start (and what it stands on); all else here is the same for every law, but numbers. -/
def R_law : String := "QueryRunnerLaw"
def lw_P (b : Addr) (xs : List Int32) (args : Array Value) (s : State) : Prop := args = #[.ref b] ∧ s.IntsAt b xs ∧ xs.length ≤ 5632 ∧ (Jvm.Cond.and given_1 narrow_1).before args s = true
def lw_Q (_ : Array Value) (s : State) (o : Outcome) (t : State) : Prop := o = .returned (some (.int 1)) ∧ Framed s o t [] 600000 7302250
def lw_Z (below : List Frame) (a : Array Value) (s : State) : State → Prop := fun t => ∃ o, t.status = .running ∧ Ended t below o ∧ lw_Q a s o t
/-- the law's own end, with 1 on the stack, nothing written that was there before, its room as the claim has it -/
theorem lw_ret {p : Program} {l : Launch} {e : Env} {s : State} {m : MethodId} {below : List Frame} {meth : Method} {c : Code} {b : Nat} (hx : p.tables.exec = Jvm.exec) (hb : c.code = code) (hr : meth.sig.returnType = ret) (hlocks : meth.locks = false) {pc : Nat} {H : Heap} {ls : Array Slot} (hdg : decode code pc = .ok (.ireturn, 1)) : W p l e room_1 s m #[Value.ref b] below meth c H [] 600000 7302250 (lw_Z below #[Value.ref b] s) (F0 m pc ls [.int 1]) := by
  intro T hT X
  obtain ⟨fs, hret, hrun, hended, hW, hframe⟩ := X.leave (v := some (.int 1)) (hlocks := hlocks) (fun h => by rw [hr] at h; cases h)
  have hmeth' : T.vm.method? m = some meth := X.method'
  refine ⟨T.setFrames fs, ?_, .returned (some (.int 1)), hrun, hended, rfl, ⟨_, rfl⟩, hW, hframe⟩
  jvm_step X.here [X.here.top, hx, hb, hdg, hmeth', hr, ret, narrow_b1]
  (try refine ⟨rfl, ?_⟩); (try refine ⟨rfl, ?_⟩)
  first | (intro acts; rw [hret _ acts rfl rfl rfl]) | rw [hret _ _ rfl rfl rfl]
  exact Steps.refl _
/-- what holds at the law's entry: the machine, the code, the tables' words (any of lw_tbl by 'hts w (by decide +kernel)'), the script of L ints xs at the cell b, what the Statement gives of the start (any of its parts by flat_of_before) -/
def lw_At (p : Program) (s : State) (m : MethodId) (meth : Method) (c : Code) (b L : Nat) (xs : Nat → Int32) : Prop :=
  p.tables.exec = Jvm.exec ∧ c.code = code ∧ meth.sig.returnType = ret ∧ c.maxLocals = 4 ∧ s.vm.findClass R_law = some m.cls ∧ (∀ w ∈ lw_tbl, w.before #[Value.ref b] s = true) ∧ va_X b L xs s s.heap ∧ b < s.heap.size ∧ meth.locks = false ∧ (Jvm.Cond.and given_1 narrow_1).before #[Value.ref b] s = true
/-- a number as a truth: not 0 -/
def bz (x : Int32) : Int32 := if x = 0 then 0 else 1
section LB
variable {p : Program} {l : Launch} {e : Env} {R : Room} {s : State} {m : MethodId} {args : Array Value} {below : List Frame} {meth : Method} {c : Code} {H : Heap} {locs : List Loc} {cells slots pc : Nat} {Q : State → Prop} {cc : ByteArray} {ls : Array Slot} {rest : List Value} {x : Int32}
theorem lw_bool (hexec : p.tables.exec = Jvm.exec) (hb : c.code = cc) (d1 : decode cc pc = .ok (.ifCond .eq 7, 3)) (d2 : decode cc (pc + 3) = .ok (.iconst 1, 1)) (d3 : decode cc (pc + 4) = .ok (.goto 4, 3)) (d4 : decode cc (pc + 7) = .ok (.iconst 0, 1)) (k : W p l e R s m args below meth c H locs cells slots Q (F0 m (pc + 8) ls (.int (bz x) :: rest))) : W p l e R s m args below meth c H locs cells slots Q (F0 m pc ls (.int x :: rest)) := by
  refine lv_if_eq (tgt := pc + 7) hexec hb d1 (by omega) (fun hc => ?_) (fun hc => ?_)
  · refine lv_iconst (v := 0) hexec hb d4 (by decide) ?_
    have e1 : bz x = 0 := if_pos hc
    rw [e1] at k
    exact k
  · refine lv_iconst (v := 1) hexec hb d2 (by decide) ?_
    refine lv_goto (tgt := pc + 8) hexec hb d3 (by omega) ?_
    have e1 : bz x = 1 := if_neg hc
    rw [e1] at k
    exact k
end LB
set_option maxRecDepth 100000 in
set_option maxHeartbeats 4000000 in
theorem lc_Q_table {p : Program} {e : Env} {s : State} {m : MethodId} {below : List Frame} {meth : Method} {c : Code} (l : Launch) {b L : Nat} {xs : Nat → Int32} (C0 : lw_At p s m meth c b L xs) (D : va_G) (ca : Nat → ClassId) (a a2 : Nat → Nat) (N : Nat) (hK : va_K D vCl (tyA ca) s) (hN : ∀ w ∈ nwX, va_Nw w s) (i : Int32) (hin : ∀ k : Nat, k ≤ 10 → vp_in (i + Int32.ofNat k) L) (g : Bool) (σ ρ σ' ρ' : St) (r : Int32) (h1 : f_Q_table N σ (xs (i + (1 : Int32)).toNatClampNeg) = some (r, σ')) (h2 : f_M_table N ρ (xs (i + (1 : Int32)).toNatClampNeg) = some (r, ρ')) {H : Heap} {locs : List Loc} {cells slots : Nat} {ls : Array Slot} (hP : va_P D vCl (wX g ca a σ ++ wM false ca a2 ρ) H) (hD : va_D (fun q : Nat => s.heap.size ≤ q) (wX g ca a σ ++ wM false ca a2 ρ)) (hS : va_S (fun q : Nat => s.heap.size ≤ q) s.heap H locs) (hl : lv_has ls 4 [(0, .ref b), (1, .ref (a 0)), (2, .ref (a2 0)), (3, .int i)]) (hc1 : cells + 12 ≤ 600000) (hs1 : slots + (100) ≤ 7302250) (kk : ∀ (H : Heap) (locs : List Loc), va_P D vCl (wX g ca a σ' ++ wM false ca a2 ρ') H → va_D (fun q : Nat => s.heap.size ≤ q) (wX g ca a σ' ++ wM false ca a2 ρ') → va_S (fun q : Nat => s.heap.size ≤ q) s.heap H locs → W p l e room_1 s m #[Value.ref b] below meth c H locs (cells + 12) (slots + (100)) (lw_Z below #[Value.ref b] s) (F0 m 902 ls [])) : W p l e room_1 s m #[Value.ref b] below meth c H locs cells slots (lw_Z below #[Value.ref b] s) (F0 m 116 ls []) := by
  obtain ⟨hx, hb, hr, hml, hown, hts, hX, hbl, hlocks, hgv⟩ := id C0
  have hA : ∀ q : Nat, s.heap.size ≤ q → (fun q : Nat => s.heap.size ≤ q) q := fun _ h => h
  have hbA : ¬ (fun q : Nat => s.heap.size ≤ q) b := Nat.not_le.mpr hbl
  have hB : ∀ w ∈ BIG, w.before #[Value.ref b] s = true := fun w h => hts w (bg_out h)
  have hcl : cells + 12 ≤ room_1.cells := hc1
  have hsl : slots + (100) ≤ room_1.slots := hs1
  refine lv_aload_n hx hb d_law_116 rfl (lv_at hl 1 rfl) ?_
  refine lv_aload_n hx hb d_law_117 rfl (lv_at hl 0 rfl) ?_
  refine lv_iload_n hx hb d_law_118 rfl (lv_at hl 3 rfl) ?_
  refine lv_iconst (v := (1 : Int32)) hx hb d_law_119 (by decide) ?_
  refine lv_iadd hx hb d_law_120 ?_
  refine va_sld hx hb hX hbl hbA hS (hin 1 (by decide)) d_law_121 ?_
  refine go_VI (rest := []) ⟨hx, hb, hml, hown, hB⟩ nwX_ok (c_Q_table l D ca g a (wM false ca a2 ρ) N σ σ' (xs (i + (1 : Int32)).toNatClampNeg) r h1) (cwx_V hB m_405 kw_Q_table ⟨by decide, by decide⟩ rfl rfl) (va_recv hK hP (ci := 0) (q0 := 0) rfl rfl) hN hK hP hD hS hA rfl hl.1 rfl (Nat.le_of_ble_eq_true rfl) d_law_122 ⟨Nat.le_trans (Nat.add_le_add_left (by decide) _) hcl, Nat.le_trans (Nat.add_le_add_left (by decide) _) hsl⟩ (fun H locs hP hD hS => ?_)
  replace hP := vP_perm List.perm_append_comm hP
  replace hD := vD_perm List.perm_append_comm hD
  have hcl : cells + 0 + 0 ≤ room_1.cells := by show _ ≤ 600000; omega
  have hsl : slots + 0 + 0 ≤ room_1.slots := by show _ ≤ 7302250; omega
  refine lv_aload_n hx hb d_law_125 rfl (lv_at hl 2 rfl) ?_
  refine lv_aload_n hx hb d_law_126 rfl (lv_at hl 0 rfl) ?_
  refine lv_iload_n hx hb d_law_127 rfl (lv_at hl 3 rfl) ?_
  refine lv_iconst (v := (1 : Int32)) hx hb d_law_128 (by decide) ?_
  refine lv_iadd hx hb d_law_129 ?_
  refine va_sld hx hb hX hbl hbA hS (hin 1 (by decide)) d_law_130 ?_
  refine go_VI (rest := [.int r]) ⟨hx, hb, hml, hown, hB⟩ nwM_ok (c_M_table l D ca false a2 (wX g ca a σ') N ρ ρ' (xs (i + (1 : Int32)).toNatClampNeg) r h2) (cwx_V hB m_1027 kw_M_table ⟨by decide, by decide⟩ rfl rfl) (va_recv hK hP (ci := 1) (q0 := 0) rfl rfl) (fun _ h => absurd h List.not_mem_nil) hK hP hD hS hA rfl hl.1 rfl (Nat.le_of_ble_eq_true rfl) d_law_131 ⟨Nat.le_trans (Nat.add_le_add_left (by decide) _) hcl, Nat.le_trans (Nat.add_le_add_left (by decide) _) hsl⟩ (fun H locs hP hD hS => ?_)
  replace hP := vP_perm List.perm_append_comm hP
  replace hD := vD_perm List.perm_append_comm hD
  refine lv_icmp_eq (tgt := 902) hx hb d_law_134 (by decide) (fun _ => ?_) (fun hc => absurd rfl hc)
  refine W.widen (k := cells + 12) (n := slots + (100)) (by omega) (by omega) ?_
  exact kk H locs hP hD hS
set_option maxRecDepth 100000 in
set_option maxHeartbeats 4000000 in
theorem lc_Q_insert {p : Program} {e : Env} {s : State} {m : MethodId} {below : List Frame} {meth : Method} {c : Code} (l : Launch) {b L : Nat} {xs : Nat → Int32} (C0 : lw_At p s m meth c b L xs) (D : va_G) (ca : Nat → ClassId) (a a2 : Nat → Nat) (N : Nat) (hK : va_K D vCl (tyA ca) s) (hN : ∀ w ∈ nwX, va_Nw w s) (i : Int32) (hin : ∀ k : Nat, k ≤ 10 → vp_in (i + Int32.ofNat k) L) (g : Bool) (σ ρ σ' ρ' : St) (r : Int32) (h1 : f_Q_insert N σ (xs (i + (1 : Int32)).toNatClampNeg) ((((xs (i + (2 : Int32)).toNatClampNeg)).toInt64 <<< (((32 : Int32)).toInt64 &&& 63)) ||| (((xs (i + (3 : Int32)).toNatClampNeg)).toInt64 &&& (4294967295 : Int64))) ((((xs (i + (4 : Int32)).toNatClampNeg)).toInt64 <<< (((32 : Int32)).toInt64 &&& 63)) ||| (((xs (i + (5 : Int32)).toNatClampNeg)).toInt64 &&& (4294967295 : Int64))) ((((xs (i + (6 : Int32)).toNatClampNeg)).toInt64 <<< (((32 : Int32)).toInt64 &&& 63)) ||| (((xs (i + (7 : Int32)).toNatClampNeg)).toInt64 &&& (4294967295 : Int64))) ((((xs (i + (8 : Int32)).toNatClampNeg)).toInt64 <<< (((32 : Int32)).toInt64 &&& 63)) ||| (((xs (i + (9 : Int32)).toNatClampNeg)).toInt64 &&& (4294967295 : Int64))) (xs (i + (10 : Int32)).toNatClampNeg) = some (r, σ')) (h2 : f_M_insert N ρ (xs (i + (1 : Int32)).toNatClampNeg) ((((xs (i + (2 : Int32)).toNatClampNeg)).toInt64 <<< (((32 : Int32)).toInt64 &&& 63)) ||| (((xs (i + (3 : Int32)).toNatClampNeg)).toInt64 &&& (4294967295 : Int64))) ((((xs (i + (4 : Int32)).toNatClampNeg)).toInt64 <<< (((32 : Int32)).toInt64 &&& 63)) ||| (((xs (i + (5 : Int32)).toNatClampNeg)).toInt64 &&& (4294967295 : Int64))) ((((xs (i + (6 : Int32)).toNatClampNeg)).toInt64 <<< (((32 : Int32)).toInt64 &&& 63)) ||| (((xs (i + (7 : Int32)).toNatClampNeg)).toInt64 &&& (4294967295 : Int64))) ((((xs (i + (8 : Int32)).toNatClampNeg)).toInt64 <<< (((32 : Int32)).toInt64 &&& 63)) ||| (((xs (i + (9 : Int32)).toNatClampNeg)).toInt64 &&& (4294967295 : Int64))) (xs (i + (10 : Int32)).toNatClampNeg) = some (r, ρ')) {H : Heap} {locs : List Loc} {cells slots : Nat} {ls : Array Slot} (hP : va_P D vCl (wX g ca a σ ++ wM false ca a2 ρ) H) (hD : va_D (fun q : Nat => s.heap.size ≤ q) (wX g ca a σ ++ wM false ca a2 ρ)) (hS : va_S (fun q : Nat => s.heap.size ≤ q) s.heap H locs) (hl : lv_has ls 4 [(0, .ref b), (1, .ref (a 0)), (2, .ref (a2 0)), (3, .int i)]) (hc1 : cells + 12 ≤ 600000) (hs1 : slots + (100) ≤ 7302250) (kk : ∀ (H : Heap) (locs : List Loc), va_P D vCl (wX g ca a σ' ++ wM false ca a2 ρ') H → va_D (fun q : Nat => s.heap.size ≤ q) (wX g ca a σ' ++ wM false ca a2 ρ') → va_S (fun q : Nat => s.heap.size ≤ q) s.heap H locs → W p l e room_1 s m #[Value.ref b] below meth c H locs (cells + 12) (slots + (100)) (lw_Z below #[Value.ref b] s) (F0 m 902 ls [])) : W p l e room_1 s m #[Value.ref b] below meth c H locs cells slots (lw_Z below #[Value.ref b] s) (F0 m 139 ls []) := by
  obtain ⟨hx, hb, hr, hml, hown, hts, hX, hbl, hlocks, hgv⟩ := id C0
  have hA : ∀ q : Nat, s.heap.size ≤ q → (fun q : Nat => s.heap.size ≤ q) q := fun _ h => h
  have hbA : ¬ (fun q : Nat => s.heap.size ≤ q) b := Nat.not_le.mpr hbl
  have hB : ∀ w ∈ BIG, w.before #[Value.ref b] s = true := fun w h => hts w (bg_out h)
  have hcl : cells + 12 ≤ room_1.cells := hc1
  have hsl : slots + (100) ≤ room_1.slots := hs1
  refine lv_aload_n hx hb d_law_139 rfl (lv_at hl 1 rfl) ?_
  refine lv_aload_n hx hb d_law_140 rfl (lv_at hl 0 rfl) ?_
  refine lv_iload_n hx hb d_law_141 rfl (lv_at hl 3 rfl) ?_
  refine lv_iconst (v := (1 : Int32)) hx hb d_law_142 (by decide) ?_
  refine lv_iadd hx hb d_law_143 ?_
  refine va_sld hx hb hX hbl hbA hS (hin 1 (by decide)) d_law_144 ?_
  refine lv_aload_n hx hb d_law_145 rfl (lv_at hl 0 rfl) ?_
  refine lv_iload_n hx hb d_law_146 rfl (lv_at hl 3 rfl) ?_
  refine lv_iconst (v := (2 : Int32)) hx hb d_law_147 (by decide) ?_
  refine lv_iadd hx hb d_law_148 ?_
  refine va_sld hx hb hX hbl hbA hS (hin 2 (by decide)) d_law_149 ?_
  refine lv_i2l hx hb d_law_150 rfl ?_
  refine lv_bipush (v := (32 : Int32)) hx hb d_law_151 (by decide) ?_
  refine lv_lshl hx hb d_law_153 rfl ?_
  refine lv_aload_n hx hb d_law_154 rfl (lv_at hl 0 rfl) ?_
  refine lv_iload_n hx hb d_law_155 rfl (lv_at hl 3 rfl) ?_
  refine lv_iconst (v := (3 : Int32)) hx hb d_law_156 (by decide) ?_
  refine lv_iadd hx hb d_law_157 ?_
  refine va_sld hx hb hX hbl hbA hS (hin 3 (by decide)) d_law_158 ?_
  refine lv_i2l hx hb d_law_159 rfl ?_
  refine lv_ldc2 (v := (4294967295 : Int64)) hx hb hown (hB _ m_1273) d_law_160 ?_
  refine lv_land hx hb d_law_163 ?_
  refine lv_lor hx hb d_law_164 ?_
  refine lv_aload_n hx hb d_law_165 rfl (lv_at hl 0 rfl) ?_
  refine lv_iload_n hx hb d_law_166 rfl (lv_at hl 3 rfl) ?_
  refine lv_iconst (v := (4 : Int32)) hx hb d_law_167 (by decide) ?_
  refine lv_iadd hx hb d_law_168 ?_
  refine va_sld hx hb hX hbl hbA hS (hin 4 (by decide)) d_law_169 ?_
  refine lv_i2l hx hb d_law_170 rfl ?_
  refine lv_bipush (v := (32 : Int32)) hx hb d_law_171 (by decide) ?_
  refine lv_lshl hx hb d_law_173 rfl ?_
  refine lv_aload_n hx hb d_law_174 rfl (lv_at hl 0 rfl) ?_
  refine lv_iload_n hx hb d_law_175 rfl (lv_at hl 3 rfl) ?_
  refine lv_iconst (v := (5 : Int32)) hx hb d_law_176 (by decide) ?_
  refine lv_iadd hx hb d_law_177 ?_
  refine va_sld hx hb hX hbl hbA hS (hin 5 (by decide)) d_law_178 ?_
  refine lv_i2l hx hb d_law_179 rfl ?_
  refine lv_ldc2 (v := (4294967295 : Int64)) hx hb hown (hB _ m_1273) d_law_180 ?_
  refine lv_land hx hb d_law_183 ?_
  refine lv_lor hx hb d_law_184 ?_
  refine lv_aload_n hx hb d_law_185 rfl (lv_at hl 0 rfl) ?_
  refine lv_iload_n hx hb d_law_186 rfl (lv_at hl 3 rfl) ?_
  refine lv_bipush (v := (6 : Int32)) hx hb d_law_187 (by decide) ?_
  refine lv_iadd hx hb d_law_189 ?_
  refine va_sld hx hb hX hbl hbA hS (hin 6 (by decide)) d_law_190 ?_
  refine lv_i2l hx hb d_law_191 rfl ?_
  refine lv_bipush (v := (32 : Int32)) hx hb d_law_192 (by decide) ?_
  refine lv_lshl hx hb d_law_194 rfl ?_
  refine lv_aload_n hx hb d_law_195 rfl (lv_at hl 0 rfl) ?_
  refine lv_iload_n hx hb d_law_196 rfl (lv_at hl 3 rfl) ?_
  refine lv_bipush (v := (7 : Int32)) hx hb d_law_197 (by decide) ?_
  refine lv_iadd hx hb d_law_199 ?_
  refine va_sld hx hb hX hbl hbA hS (hin 7 (by decide)) d_law_200 ?_
  refine lv_i2l hx hb d_law_201 rfl ?_
  refine lv_ldc2 (v := (4294967295 : Int64)) hx hb hown (hB _ m_1273) d_law_202 ?_
  refine lv_land hx hb d_law_205 ?_
  refine lv_lor hx hb d_law_206 ?_
  refine lv_aload_n hx hb d_law_207 rfl (lv_at hl 0 rfl) ?_
  refine lv_iload_n hx hb d_law_208 rfl (lv_at hl 3 rfl) ?_
  refine lv_bipush (v := (8 : Int32)) hx hb d_law_209 (by decide) ?_
  refine lv_iadd hx hb d_law_211 ?_
  refine va_sld hx hb hX hbl hbA hS (hin 8 (by decide)) d_law_212 ?_
  refine lv_i2l hx hb d_law_213 rfl ?_
  refine lv_bipush (v := (32 : Int32)) hx hb d_law_214 (by decide) ?_
  refine lv_lshl hx hb d_law_216 rfl ?_
  refine lv_aload_n hx hb d_law_217 rfl (lv_at hl 0 rfl) ?_
  refine lv_iload_n hx hb d_law_218 rfl (lv_at hl 3 rfl) ?_
  refine lv_bipush (v := (9 : Int32)) hx hb d_law_219 (by decide) ?_
  refine lv_iadd hx hb d_law_221 ?_
  refine va_sld hx hb hX hbl hbA hS (hin 9 (by decide)) d_law_222 ?_
  refine lv_i2l hx hb d_law_223 rfl ?_
  refine lv_ldc2 (v := (4294967295 : Int64)) hx hb hown (hB _ m_1273) d_law_224 ?_
  refine lv_land hx hb d_law_227 ?_
  refine lv_lor hx hb d_law_228 ?_
  refine lv_aload_n hx hb d_law_229 rfl (lv_at hl 0 rfl) ?_
  refine lv_iload_n hx hb d_law_230 rfl (lv_at hl 3 rfl) ?_
  refine lv_bipush (v := (10 : Int32)) hx hb d_law_231 (by decide) ?_
  refine lv_iadd hx hb d_law_233 ?_
  refine va_sld hx hb hX hbl hbA hS (hin 10 (by decide)) d_law_234 ?_
  refine go_VI (rest := []) ⟨hx, hb, hml, hown, hB⟩ nwX_ok (c_Q_insert l D ca g a (wM false ca a2 ρ) N σ σ' (xs (i + (1 : Int32)).toNatClampNeg) ((((xs (i + (2 : Int32)).toNatClampNeg)).toInt64 <<< (((32 : Int32)).toInt64 &&& 63)) ||| (((xs (i + (3 : Int32)).toNatClampNeg)).toInt64 &&& (4294967295 : Int64))) ((((xs (i + (4 : Int32)).toNatClampNeg)).toInt64 <<< (((32 : Int32)).toInt64 &&& 63)) ||| (((xs (i + (5 : Int32)).toNatClampNeg)).toInt64 &&& (4294967295 : Int64))) ((((xs (i + (6 : Int32)).toNatClampNeg)).toInt64 <<< (((32 : Int32)).toInt64 &&& 63)) ||| (((xs (i + (7 : Int32)).toNatClampNeg)).toInt64 &&& (4294967295 : Int64))) ((((xs (i + (8 : Int32)).toNatClampNeg)).toInt64 <<< (((32 : Int32)).toInt64 &&& 63)) ||| (((xs (i + (9 : Int32)).toNatClampNeg)).toInt64 &&& (4294967295 : Int64))) (xs (i + (10 : Int32)).toNatClampNeg) r h1) (cwx_V hB m_413 kw_Q_insert ⟨by decide, by decide⟩ rfl rfl) (va_recv hK hP (ci := 0) (q0 := 0) rfl rfl) hN hK hP hD hS hA rfl hl.1 rfl (Nat.le_of_ble_eq_true rfl) d_law_235 ⟨Nat.le_trans (Nat.add_le_add_left (by decide) _) hcl, Nat.le_trans (Nat.add_le_add_left (by decide) _) hsl⟩ (fun H locs hP hD hS => ?_)
  replace hP := vP_perm List.perm_append_comm hP
  replace hD := vD_perm List.perm_append_comm hD
  have hcl : cells + 1 + 0 ≤ room_1.cells := by show _ ≤ 600000; omega
  have hsl : slots + 4 + 0 ≤ room_1.slots := by show _ ≤ 7302250; omega
  refine lv_aload_n hx hb d_law_238 rfl (lv_at hl 2 rfl) ?_
  refine lv_aload_n hx hb d_law_239 rfl (lv_at hl 0 rfl) ?_
  refine lv_iload_n hx hb d_law_240 rfl (lv_at hl 3 rfl) ?_
  refine lv_iconst (v := (1 : Int32)) hx hb d_law_241 (by decide) ?_
  refine lv_iadd hx hb d_law_242 ?_
  refine va_sld hx hb hX hbl hbA hS (hin 1 (by decide)) d_law_243 ?_
  refine lv_aload_n hx hb d_law_244 rfl (lv_at hl 0 rfl) ?_
  refine lv_iload_n hx hb d_law_245 rfl (lv_at hl 3 rfl) ?_
  refine lv_iconst (v := (2 : Int32)) hx hb d_law_246 (by decide) ?_
  refine lv_iadd hx hb d_law_247 ?_
  refine va_sld hx hb hX hbl hbA hS (hin 2 (by decide)) d_law_248 ?_
  refine lv_i2l hx hb d_law_249 rfl ?_
  refine lv_bipush (v := (32 : Int32)) hx hb d_law_250 (by decide) ?_
  refine lv_lshl hx hb d_law_252 rfl ?_
  refine lv_aload_n hx hb d_law_253 rfl (lv_at hl 0 rfl) ?_
  refine lv_iload_n hx hb d_law_254 rfl (lv_at hl 3 rfl) ?_
  refine lv_iconst (v := (3 : Int32)) hx hb d_law_255 (by decide) ?_
  refine lv_iadd hx hb d_law_256 ?_
  refine va_sld hx hb hX hbl hbA hS (hin 3 (by decide)) d_law_257 ?_
  refine lv_i2l hx hb d_law_258 rfl ?_
  refine lv_ldc2 (v := (4294967295 : Int64)) hx hb hown (hB _ m_1273) d_law_259 ?_
  refine lv_land hx hb d_law_262 ?_
  refine lv_lor hx hb d_law_263 ?_
  refine lv_aload_n hx hb d_law_264 rfl (lv_at hl 0 rfl) ?_
  refine lv_iload_n hx hb d_law_265 rfl (lv_at hl 3 rfl) ?_
  refine lv_iconst (v := (4 : Int32)) hx hb d_law_266 (by decide) ?_
  refine lv_iadd hx hb d_law_267 ?_
  refine va_sld hx hb hX hbl hbA hS (hin 4 (by decide)) d_law_268 ?_
  refine lv_i2l hx hb d_law_269 rfl ?_
  refine lv_bipush (v := (32 : Int32)) hx hb d_law_270 (by decide) ?_
  refine lv_lshl hx hb d_law_272 rfl ?_
  refine lv_aload_n hx hb d_law_273 rfl (lv_at hl 0 rfl) ?_
  refine lv_iload_n hx hb d_law_274 rfl (lv_at hl 3 rfl) ?_
  refine lv_iconst (v := (5 : Int32)) hx hb d_law_275 (by decide) ?_
  refine lv_iadd hx hb d_law_276 ?_
  refine va_sld hx hb hX hbl hbA hS (hin 5 (by decide)) d_law_277 ?_
  refine lv_i2l hx hb d_law_278 rfl ?_
  refine lv_ldc2 (v := (4294967295 : Int64)) hx hb hown (hB _ m_1273) d_law_279 ?_
  refine lv_land hx hb d_law_282 ?_
  refine lv_lor hx hb d_law_283 ?_
  refine lv_aload_n hx hb d_law_284 rfl (lv_at hl 0 rfl) ?_
  refine lv_iload_n hx hb d_law_285 rfl (lv_at hl 3 rfl) ?_
  refine lv_bipush (v := (6 : Int32)) hx hb d_law_286 (by decide) ?_
  refine lv_iadd hx hb d_law_288 ?_
  refine va_sld hx hb hX hbl hbA hS (hin 6 (by decide)) d_law_289 ?_
  refine lv_i2l hx hb d_law_290 rfl ?_
  refine lv_bipush (v := (32 : Int32)) hx hb d_law_291 (by decide) ?_
  refine lv_lshl hx hb d_law_293 rfl ?_
  refine lv_aload_n hx hb d_law_294 rfl (lv_at hl 0 rfl) ?_
  refine lv_iload_n hx hb d_law_295 rfl (lv_at hl 3 rfl) ?_
  refine lv_bipush (v := (7 : Int32)) hx hb d_law_296 (by decide) ?_
  refine lv_iadd hx hb d_law_298 ?_
  refine va_sld hx hb hX hbl hbA hS (hin 7 (by decide)) d_law_299 ?_
  refine lv_i2l hx hb d_law_300 rfl ?_
  refine lv_ldc2 (v := (4294967295 : Int64)) hx hb hown (hB _ m_1273) d_law_301 ?_
  refine lv_land hx hb d_law_304 ?_
  refine lv_lor hx hb d_law_305 ?_
  refine lv_aload_n hx hb d_law_306 rfl (lv_at hl 0 rfl) ?_
  refine lv_iload_n hx hb d_law_307 rfl (lv_at hl 3 rfl) ?_
  refine lv_bipush (v := (8 : Int32)) hx hb d_law_308 (by decide) ?_
  refine lv_iadd hx hb d_law_310 ?_
  refine va_sld hx hb hX hbl hbA hS (hin 8 (by decide)) d_law_311 ?_
  refine lv_i2l hx hb d_law_312 rfl ?_
  refine lv_bipush (v := (32 : Int32)) hx hb d_law_313 (by decide) ?_
  refine lv_lshl hx hb d_law_315 rfl ?_
  refine lv_aload_n hx hb d_law_316 rfl (lv_at hl 0 rfl) ?_
  refine lv_iload_n hx hb d_law_317 rfl (lv_at hl 3 rfl) ?_
  refine lv_bipush (v := (9 : Int32)) hx hb d_law_318 (by decide) ?_
  refine lv_iadd hx hb d_law_320 ?_
  refine va_sld hx hb hX hbl hbA hS (hin 9 (by decide)) d_law_321 ?_
  refine lv_i2l hx hb d_law_322 rfl ?_
  refine lv_ldc2 (v := (4294967295 : Int64)) hx hb hown (hB _ m_1273) d_law_323 ?_
  refine lv_land hx hb d_law_326 ?_
  refine lv_lor hx hb d_law_327 ?_
  refine lv_aload_n hx hb d_law_328 rfl (lv_at hl 0 rfl) ?_
  refine lv_iload_n hx hb d_law_329 rfl (lv_at hl 3 rfl) ?_
  refine lv_bipush (v := (10 : Int32)) hx hb d_law_330 (by decide) ?_
  refine lv_iadd hx hb d_law_332 ?_
  refine va_sld hx hb hX hbl hbA hS (hin 10 (by decide)) d_law_333 ?_
  refine go_VI (rest := [.int r]) ⟨hx, hb, hml, hown, hB⟩ nwM_ok (c_M_insert l D ca false a2 (wX g ca a σ') N ρ ρ' (xs (i + (1 : Int32)).toNatClampNeg) ((((xs (i + (2 : Int32)).toNatClampNeg)).toInt64 <<< (((32 : Int32)).toInt64 &&& 63)) ||| (((xs (i + (3 : Int32)).toNatClampNeg)).toInt64 &&& (4294967295 : Int64))) ((((xs (i + (4 : Int32)).toNatClampNeg)).toInt64 <<< (((32 : Int32)).toInt64 &&& 63)) ||| (((xs (i + (5 : Int32)).toNatClampNeg)).toInt64 &&& (4294967295 : Int64))) ((((xs (i + (6 : Int32)).toNatClampNeg)).toInt64 <<< (((32 : Int32)).toInt64 &&& 63)) ||| (((xs (i + (7 : Int32)).toNatClampNeg)).toInt64 &&& (4294967295 : Int64))) ((((xs (i + (8 : Int32)).toNatClampNeg)).toInt64 <<< (((32 : Int32)).toInt64 &&& 63)) ||| (((xs (i + (9 : Int32)).toNatClampNeg)).toInt64 &&& (4294967295 : Int64))) (xs (i + (10 : Int32)).toNatClampNeg) r h2) (cwx_V hB m_1035 kw_M_insert ⟨by decide, by decide⟩ rfl rfl) (va_recv hK hP (ci := 1) (q0 := 0) rfl rfl) (fun _ h => absurd h List.not_mem_nil) hK hP hD hS hA rfl hl.1 rfl (Nat.le_of_ble_eq_true rfl) d_law_334 ⟨Nat.le_trans (Nat.add_le_add_left (by decide) _) hcl, Nat.le_trans (Nat.add_le_add_left (by decide) _) hsl⟩ (fun H locs hP hD hS => ?_)
  replace hP := vP_perm List.perm_append_comm hP
  replace hD := vD_perm List.perm_append_comm hD
  refine lv_icmp_eq (tgt := 902) hx hb d_law_337 (by decide) (fun _ => ?_) (fun hc => absurd rfl hc)
  refine W.widen (k := cells + 12) (n := slots + (100)) (by omega) (by omega) ?_
  exact kk H locs hP hD hS
set_option maxRecDepth 100000 in
set_option maxHeartbeats 4000000 in
theorem lc_Q_fresh {p : Program} {e : Env} {s : State} {m : MethodId} {below : List Frame} {meth : Method} {c : Code} (l : Launch) {b L : Nat} {xs : Nat → Int32} (C0 : lw_At p s m meth c b L xs) (D : va_G) (ca : Nat → ClassId) (a a2 : Nat → Nat) (N : Nat) (hK : va_K D vCl (tyA ca) s) (hN : ∀ w ∈ nwX, va_Nw w s) (i : Int32) (hin : ∀ k : Nat, k ≤ 10 → vp_in (i + Int32.ofNat k) L) (g : Bool) (σ ρ σ' ρ' : St) (r : Int32) (h1 : f_Q_fresh N σ = some (r, σ')) (h2 : f_M_fresh N ρ = some (r, ρ')) {H : Heap} {locs : List Loc} {cells slots : Nat} {ls : Array Slot} (hP : va_P D vCl (wX g ca a σ ++ wM false ca a2 ρ) H) (hD : va_D (fun q : Nat => s.heap.size ≤ q) (wX g ca a σ ++ wM false ca a2 ρ)) (hS : va_S (fun q : Nat => s.heap.size ≤ q) s.heap H locs) (hl : lv_has ls 4 [(0, .ref b), (1, .ref (a 0)), (2, .ref (a2 0)), (3, .int i)]) (hc1 : cells + 12 ≤ 600000) (hs1 : slots + (100) ≤ 7302250) (kk : ∀ (H : Heap) (locs : List Loc), va_P D vCl (wX g ca a σ' ++ wM false ca a2 ρ') H → va_D (fun q : Nat => s.heap.size ≤ q) (wX g ca a σ' ++ wM false ca a2 ρ') → va_S (fun q : Nat => s.heap.size ≤ q) s.heap H locs → W p l e room_1 s m #[Value.ref b] below meth c H locs (cells + 12) (slots + (100)) (lw_Z below #[Value.ref b] s) (F0 m 902 ls [])) : W p l e room_1 s m #[Value.ref b] below meth c H locs cells slots (lw_Z below #[Value.ref b] s) (F0 m 342 ls []) := by
  obtain ⟨hx, hb, hr, hml, hown, hts, hX, hbl, hlocks, hgv⟩ := id C0
  have hA : ∀ q : Nat, s.heap.size ≤ q → (fun q : Nat => s.heap.size ≤ q) q := fun _ h => h
  have hbA : ¬ (fun q : Nat => s.heap.size ≤ q) b := Nat.not_le.mpr hbl
  have hB : ∀ w ∈ BIG, w.before #[Value.ref b] s = true := fun w h => hts w (bg_out h)
  have hcl : cells + 12 ≤ room_1.cells := hc1
  have hsl : slots + (100) ≤ room_1.slots := hs1
  refine lv_aload_n hx hb d_law_342 rfl (lv_at hl 1 rfl) ?_
  refine go_VI (rest := []) ⟨hx, hb, hml, hown, hB⟩ nwX_ok (c_Q_fresh l D ca g a (wM false ca a2 ρ) N σ σ' r h1) (cwx_V hB m_436 kw_Q_fresh ⟨by decide, by decide⟩ rfl rfl) (va_recv hK hP (ci := 0) (q0 := 0) rfl rfl) hN hK hP hD hS hA rfl hl.1 rfl (Nat.le_of_ble_eq_true rfl) d_law_343 ⟨Nat.le_trans (Nat.add_le_add_left (by decide) _) hcl, Nat.le_trans (Nat.add_le_add_left (by decide) _) hsl⟩ (fun H locs hP hD hS => ?_)
  replace hP := vP_perm List.perm_append_comm hP
  replace hD := vD_perm List.perm_append_comm hD
  have hcl : cells + 0 + 0 ≤ room_1.cells := by show _ ≤ 600000; omega
  have hsl : slots + 0 + 0 ≤ room_1.slots := by show _ ≤ 7302250; omega
  refine lv_aload_n hx hb d_law_346 rfl (lv_at hl 2 rfl) ?_
  refine go_VI (rest := [.int r]) ⟨hx, hb, hml, hown, hB⟩ nwM_ok (c_M_fresh l D ca false a2 (wX g ca a σ') N ρ ρ' r h2) (cwx_V hB m_1041 kw_M_fresh ⟨by decide, by decide⟩ rfl rfl) (va_recv hK hP (ci := 1) (q0 := 0) rfl rfl) (fun _ h => absurd h List.not_mem_nil) hK hP hD hS hA rfl hl.1 rfl (Nat.le_of_ble_eq_true rfl) d_law_347 ⟨Nat.le_trans (Nat.add_le_add_left (by decide) _) hcl, Nat.le_trans (Nat.add_le_add_left (by decide) _) hsl⟩ (fun H locs hP hD hS => ?_)
  replace hP := vP_perm List.perm_append_comm hP
  replace hD := vD_perm List.perm_append_comm hD
  refine lv_icmp_eq (tgt := 902) hx hb d_law_350 (by decide) (fun _ => ?_) (fun hc => absurd rfl hc)
  refine W.widen (k := cells + 12) (n := slots + (100)) (by omega) (by omega) ?_
  exact kk H locs hP hD hS
set_option maxRecDepth 100000 in
set_option maxHeartbeats 4000000 in
theorem lc_Q_constant {p : Program} {e : Env} {s : State} {m : MethodId} {below : List Frame} {meth : Method} {c : Code} (l : Launch) {b L : Nat} {xs : Nat → Int32} (C0 : lw_At p s m meth c b L xs) (D : va_G) (ca : Nat → ClassId) (a a2 : Nat → Nat) (N : Nat) (hK : va_K D vCl (tyA ca) s) (hN : ∀ w ∈ nwX, va_Nw w s) (i : Int32) (hin : ∀ k : Nat, k ≤ 10 → vp_in (i + Int32.ofNat k) L) (g : Bool) (σ ρ σ' ρ' : St) (r : Int32) (h1 : f_Q_constant N σ ((((xs (i + (1 : Int32)).toNatClampNeg)).toInt64 <<< (((32 : Int32)).toInt64 &&& 63)) ||| (((xs (i + (2 : Int32)).toNatClampNeg)).toInt64 &&& (4294967295 : Int64))) (bz (xs (i + (3 : Int32)).toNatClampNeg)) = some (r, σ')) (h2 : f_M_constant N ρ ((((xs (i + (1 : Int32)).toNatClampNeg)).toInt64 <<< (((32 : Int32)).toInt64 &&& 63)) ||| (((xs (i + (2 : Int32)).toNatClampNeg)).toInt64 &&& (4294967295 : Int64))) (bz (xs (i + (3 : Int32)).toNatClampNeg)) = some (r, ρ')) {H : Heap} {locs : List Loc} {cells slots : Nat} {ls : Array Slot} (hP : va_P D vCl (wX g ca a σ ++ wM false ca a2 ρ) H) (hD : va_D (fun q : Nat => s.heap.size ≤ q) (wX g ca a σ ++ wM false ca a2 ρ)) (hS : va_S (fun q : Nat => s.heap.size ≤ q) s.heap H locs) (hl : lv_has ls 4 [(0, .ref b), (1, .ref (a 0)), (2, .ref (a2 0)), (3, .int i)]) (hc1 : cells + 12 ≤ 600000) (hs1 : slots + (100) ≤ 7302250) (kk : ∀ (H : Heap) (locs : List Loc), va_P D vCl (wX g ca a σ' ++ wM false ca a2 ρ') H → va_D (fun q : Nat => s.heap.size ≤ q) (wX g ca a σ' ++ wM false ca a2 ρ') → va_S (fun q : Nat => s.heap.size ≤ q) s.heap H locs → W p l e room_1 s m #[Value.ref b] below meth c H locs (cells + 12) (slots + (100)) (lw_Z below #[Value.ref b] s) (F0 m 902 ls [])) : W p l e room_1 s m #[Value.ref b] below meth c H locs cells slots (lw_Z below #[Value.ref b] s) (F0 m 355 ls []) := by
  obtain ⟨hx, hb, hr, hml, hown, hts, hX, hbl, hlocks, hgv⟩ := id C0
  have hA : ∀ q : Nat, s.heap.size ≤ q → (fun q : Nat => s.heap.size ≤ q) q := fun _ h => h
  have hbA : ¬ (fun q : Nat => s.heap.size ≤ q) b := Nat.not_le.mpr hbl
  have hB : ∀ w ∈ BIG, w.before #[Value.ref b] s = true := fun w h => hts w (bg_out h)
  have hcl : cells + 12 ≤ room_1.cells := hc1
  have hsl : slots + (100) ≤ room_1.slots := hs1
  refine lv_aload_n hx hb d_law_355 rfl (lv_at hl 1 rfl) ?_
  refine lv_aload_n hx hb d_law_356 rfl (lv_at hl 0 rfl) ?_
  refine lv_iload_n hx hb d_law_357 rfl (lv_at hl 3 rfl) ?_
  refine lv_iconst (v := (1 : Int32)) hx hb d_law_358 (by decide) ?_
  refine lv_iadd hx hb d_law_359 ?_
  refine va_sld hx hb hX hbl hbA hS (hin 1 (by decide)) d_law_360 ?_
  refine lv_i2l hx hb d_law_361 rfl ?_
  refine lv_bipush (v := (32 : Int32)) hx hb d_law_362 (by decide) ?_
  refine lv_lshl hx hb d_law_364 rfl ?_
  refine lv_aload_n hx hb d_law_365 rfl (lv_at hl 0 rfl) ?_
  refine lv_iload_n hx hb d_law_366 rfl (lv_at hl 3 rfl) ?_
  refine lv_iconst (v := (2 : Int32)) hx hb d_law_367 (by decide) ?_
  refine lv_iadd hx hb d_law_368 ?_
  refine va_sld hx hb hX hbl hbA hS (hin 2 (by decide)) d_law_369 ?_
  refine lv_i2l hx hb d_law_370 rfl ?_
  refine lv_ldc2 (v := (4294967295 : Int64)) hx hb hown (hB _ m_1273) d_law_371 ?_
  refine lv_land hx hb d_law_374 ?_
  refine lv_lor hx hb d_law_375 ?_
  refine lv_aload_n hx hb d_law_376 rfl (lv_at hl 0 rfl) ?_
  refine lv_iload_n hx hb d_law_377 rfl (lv_at hl 3 rfl) ?_
  refine lv_iconst (v := (3 : Int32)) hx hb d_law_378 (by decide) ?_
  refine lv_iadd hx hb d_law_379 ?_
  refine va_sld hx hb hX hbl hbA hS (hin 3 (by decide)) d_law_380 ?_
  refine lw_bool hx hb d_law_381 d_law_384 d_law_385 d_law_388 ?_
  refine go_VI (rest := []) ⟨hx, hb, hml, hown, hB⟩ nwX_ok (c_Q_constant l D ca g a (wM false ca a2 ρ) N σ σ' ((((xs (i + (1 : Int32)).toNatClampNeg)).toInt64 <<< (((32 : Int32)).toInt64 &&& 63)) ||| (((xs (i + (2 : Int32)).toNatClampNeg)).toInt64 &&& (4294967295 : Int64))) (bz (xs (i + (3 : Int32)).toNatClampNeg)) r h1) (cwx_V hB m_452 kw_Q_constant ⟨by decide, by decide⟩ rfl rfl) (va_recv hK hP (ci := 0) (q0 := 0) rfl rfl) hN hK hP hD hS hA rfl hl.1 rfl (Nat.le_of_ble_eq_true rfl) d_law_389 ⟨Nat.le_trans (Nat.add_le_add_left (by decide) _) hcl, Nat.le_trans (Nat.add_le_add_left (by decide) _) hsl⟩ (fun H locs hP hD hS => ?_)
  replace hP := vP_perm List.perm_append_comm hP
  replace hD := vD_perm List.perm_append_comm hD
  have hcl : cells + 0 + 0 ≤ room_1.cells := by show _ ≤ 600000; omega
  have hsl : slots + 0 + 0 ≤ room_1.slots := by show _ ≤ 7302250; omega
  refine lv_aload_n hx hb d_law_392 rfl (lv_at hl 2 rfl) ?_
  refine lv_aload_n hx hb d_law_393 rfl (lv_at hl 0 rfl) ?_
  refine lv_iload_n hx hb d_law_394 rfl (lv_at hl 3 rfl) ?_
  refine lv_iconst (v := (1 : Int32)) hx hb d_law_395 (by decide) ?_
  refine lv_iadd hx hb d_law_396 ?_
  refine va_sld hx hb hX hbl hbA hS (hin 1 (by decide)) d_law_397 ?_
  refine lv_i2l hx hb d_law_398 rfl ?_
  refine lv_bipush (v := (32 : Int32)) hx hb d_law_399 (by decide) ?_
  refine lv_lshl hx hb d_law_401 rfl ?_
  refine lv_aload_n hx hb d_law_402 rfl (lv_at hl 0 rfl) ?_
  refine lv_iload_n hx hb d_law_403 rfl (lv_at hl 3 rfl) ?_
  refine lv_iconst (v := (2 : Int32)) hx hb d_law_404 (by decide) ?_
  refine lv_iadd hx hb d_law_405 ?_
  refine va_sld hx hb hX hbl hbA hS (hin 2 (by decide)) d_law_406 ?_
  refine lv_i2l hx hb d_law_407 rfl ?_
  refine lv_ldc2 (v := (4294967295 : Int64)) hx hb hown (hB _ m_1273) d_law_408 ?_
  refine lv_land hx hb d_law_411 ?_
  refine lv_lor hx hb d_law_412 ?_
  refine lv_aload_n hx hb d_law_413 rfl (lv_at hl 0 rfl) ?_
  refine lv_iload_n hx hb d_law_414 rfl (lv_at hl 3 rfl) ?_
  refine lv_iconst (v := (3 : Int32)) hx hb d_law_415 (by decide) ?_
  refine lv_iadd hx hb d_law_416 ?_
  refine va_sld hx hb hX hbl hbA hS (hin 3 (by decide)) d_law_417 ?_
  refine lw_bool hx hb d_law_418 d_law_421 d_law_422 d_law_425 ?_
  refine go_VI (rest := [.int r]) ⟨hx, hb, hml, hown, hB⟩ nwM_ok (c_M_constant l D ca false a2 (wX g ca a σ') N ρ ρ' ((((xs (i + (1 : Int32)).toNatClampNeg)).toInt64 <<< (((32 : Int32)).toInt64 &&& 63)) ||| (((xs (i + (2 : Int32)).toNatClampNeg)).toInt64 &&& (4294967295 : Int64))) (bz (xs (i + (3 : Int32)).toNatClampNeg)) r h2) (cwx_V hB m_1045 kw_M_constant ⟨by decide, by decide⟩ rfl rfl) (va_recv hK hP (ci := 1) (q0 := 0) rfl rfl) (fun _ h => absurd h List.not_mem_nil) hK hP hD hS hA rfl hl.1 rfl (Nat.le_of_ble_eq_true rfl) d_law_426 ⟨Nat.le_trans (Nat.add_le_add_left (by decide) _) hcl, Nat.le_trans (Nat.add_le_add_left (by decide) _) hsl⟩ (fun H locs hP hD hS => ?_)
  replace hP := vP_perm List.perm_append_comm hP
  replace hD := vD_perm List.perm_append_comm hD
  refine lv_icmp_eq (tgt := 902) hx hb d_law_429 (by decide) (fun _ => ?_) (fun hc => absurd rfl hc)
  refine W.widen (k := cells + 12) (n := slots + (100)) (by omega) (by omega) ?_
  exact kk H locs hP hD hS
set_option maxRecDepth 100000 in
set_option maxHeartbeats 4000000 in
theorem lc_Q_column {p : Program} {e : Env} {s : State} {m : MethodId} {below : List Frame} {meth : Method} {c : Code} (l : Launch) {b L : Nat} {xs : Nat → Int32} (C0 : lw_At p s m meth c b L xs) (D : va_G) (ca : Nat → ClassId) (a a2 : Nat → Nat) (N : Nat) (hK : va_K D vCl (tyA ca) s) (hN : ∀ w ∈ nwX, va_Nw w s) (i : Int32) (hin : ∀ k : Nat, k ≤ 10 → vp_in (i + Int32.ofNat k) L) (g : Bool) (σ ρ σ' ρ' : St) (r : Int32) (h1 : f_Q_column N σ (xs (i + (1 : Int32)).toNatClampNeg) (xs (i + (2 : Int32)).toNatClampNeg) = some (r, σ')) (h2 : f_M_column N ρ (xs (i + (1 : Int32)).toNatClampNeg) (xs (i + (2 : Int32)).toNatClampNeg) = some (r, ρ')) {H : Heap} {locs : List Loc} {cells slots : Nat} {ls : Array Slot} (hP : va_P D vCl (wX g ca a σ ++ wM false ca a2 ρ) H) (hD : va_D (fun q : Nat => s.heap.size ≤ q) (wX g ca a σ ++ wM false ca a2 ρ)) (hS : va_S (fun q : Nat => s.heap.size ≤ q) s.heap H locs) (hl : lv_has ls 4 [(0, .ref b), (1, .ref (a 0)), (2, .ref (a2 0)), (3, .int i)]) (hc1 : cells + 12 ≤ 600000) (hs1 : slots + (100) ≤ 7302250) (kk : ∀ (H : Heap) (locs : List Loc), va_P D vCl (wX g ca a σ' ++ wM false ca a2 ρ') H → va_D (fun q : Nat => s.heap.size ≤ q) (wX g ca a σ' ++ wM false ca a2 ρ') → va_S (fun q : Nat => s.heap.size ≤ q) s.heap H locs → W p l e room_1 s m #[Value.ref b] below meth c H locs (cells + 12) (slots + (100)) (lw_Z below #[Value.ref b] s) (F0 m 902 ls [])) : W p l e room_1 s m #[Value.ref b] below meth c H locs cells slots (lw_Z below #[Value.ref b] s) (F0 m 434 ls []) := by
  obtain ⟨hx, hb, hr, hml, hown, hts, hX, hbl, hlocks, hgv⟩ := id C0
  have hA : ∀ q : Nat, s.heap.size ≤ q → (fun q : Nat => s.heap.size ≤ q) q := fun _ h => h
  have hbA : ¬ (fun q : Nat => s.heap.size ≤ q) b := Nat.not_le.mpr hbl
  have hB : ∀ w ∈ BIG, w.before #[Value.ref b] s = true := fun w h => hts w (bg_out h)
  have hcl : cells + 12 ≤ room_1.cells := hc1
  have hsl : slots + (100) ≤ room_1.slots := hs1
  refine lv_aload_n hx hb d_law_434 rfl (lv_at hl 1 rfl) ?_
  refine lv_aload_n hx hb d_law_435 rfl (lv_at hl 0 rfl) ?_
  refine lv_iload_n hx hb d_law_436 rfl (lv_at hl 3 rfl) ?_
  refine lv_iconst (v := (1 : Int32)) hx hb d_law_437 (by decide) ?_
  refine lv_iadd hx hb d_law_438 ?_
  refine va_sld hx hb hX hbl hbA hS (hin 1 (by decide)) d_law_439 ?_
  refine lv_aload_n hx hb d_law_440 rfl (lv_at hl 0 rfl) ?_
  refine lv_iload_n hx hb d_law_441 rfl (lv_at hl 3 rfl) ?_
  refine lv_iconst (v := (2 : Int32)) hx hb d_law_442 (by decide) ?_
  refine lv_iadd hx hb d_law_443 ?_
  refine va_sld hx hb hX hbl hbA hS (hin 2 (by decide)) d_law_444 ?_
  refine go_VI (rest := []) ⟨hx, hb, hml, hown, hB⟩ nwX_ok (c_Q_column l D ca g a (wM false ca a2 ρ) N σ σ' (xs (i + (1 : Int32)).toNatClampNeg) (xs (i + (2 : Int32)).toNatClampNeg) r h1) (cwx_V hB m_484 kw_Q_column ⟨by decide, by decide⟩ rfl rfl) (va_recv hK hP (ci := 0) (q0 := 0) rfl rfl) hN hK hP hD hS hA rfl hl.1 rfl (Nat.le_of_ble_eq_true rfl) d_law_445 ⟨Nat.le_trans (Nat.add_le_add_left (by decide) _) hcl, Nat.le_trans (Nat.add_le_add_left (by decide) _) hsl⟩ (fun H locs hP hD hS => ?_)
  replace hP := vP_perm List.perm_append_comm hP
  replace hD := vD_perm List.perm_append_comm hD
  have hcl : cells + 0 + 0 ≤ room_1.cells := by show _ ≤ 600000; omega
  have hsl : slots + 0 + 0 ≤ room_1.slots := by show _ ≤ 7302250; omega
  refine lv_aload_n hx hb d_law_448 rfl (lv_at hl 2 rfl) ?_
  refine lv_aload_n hx hb d_law_449 rfl (lv_at hl 0 rfl) ?_
  refine lv_iload_n hx hb d_law_450 rfl (lv_at hl 3 rfl) ?_
  refine lv_iconst (v := (1 : Int32)) hx hb d_law_451 (by decide) ?_
  refine lv_iadd hx hb d_law_452 ?_
  refine va_sld hx hb hX hbl hbA hS (hin 1 (by decide)) d_law_453 ?_
  refine lv_aload_n hx hb d_law_454 rfl (lv_at hl 0 rfl) ?_
  refine lv_iload_n hx hb d_law_455 rfl (lv_at hl 3 rfl) ?_
  refine lv_iconst (v := (2 : Int32)) hx hb d_law_456 (by decide) ?_
  refine lv_iadd hx hb d_law_457 ?_
  refine va_sld hx hb hX hbl hbA hS (hin 2 (by decide)) d_law_458 ?_
  refine go_VI (rest := [.int r]) ⟨hx, hb, hml, hown, hB⟩ nwM_ok (c_M_column l D ca false a2 (wX g ca a σ') N ρ ρ' (xs (i + (1 : Int32)).toNatClampNeg) (xs (i + (2 : Int32)).toNatClampNeg) r h2) (cwx_V hB m_1061 kw_M_column ⟨by decide, by decide⟩ rfl rfl) (va_recv hK hP (ci := 1) (q0 := 0) rfl rfl) (fun _ h => absurd h List.not_mem_nil) hK hP hD hS hA rfl hl.1 rfl (Nat.le_of_ble_eq_true rfl) d_law_459 ⟨Nat.le_trans (Nat.add_le_add_left (by decide) _) hcl, Nat.le_trans (Nat.add_le_add_left (by decide) _) hsl⟩ (fun H locs hP hD hS => ?_)
  replace hP := vP_perm List.perm_append_comm hP
  replace hD := vD_perm List.perm_append_comm hD
  refine lv_icmp_eq (tgt := 902) hx hb d_law_462 (by decide) (fun _ => ?_) (fun hc => absurd rfl hc)
  refine W.widen (k := cells + 12) (n := slots + (100)) (by omega) (by omega) ?_
  exact kk H locs hP hD hS
set_option maxRecDepth 100000 in
set_option maxHeartbeats 4000000 in
theorem lc_Q_op {p : Program} {e : Env} {s : State} {m : MethodId} {below : List Frame} {meth : Method} {c : Code} (l : Launch) {b L : Nat} {xs : Nat → Int32} (C0 : lw_At p s m meth c b L xs) (D : va_G) (ca : Nat → ClassId) (a a2 : Nat → Nat) (N : Nat) (hK : va_K D vCl (tyA ca) s) (hN : ∀ w ∈ nwX, va_Nw w s) (i : Int32) (hin : ∀ k : Nat, k ≤ 10 → vp_in (i + Int32.ofNat k) L) (g : Bool) (σ ρ σ' ρ' : St) (r : Int32) (h1 : f_Q_op N σ (xs (i + (1 : Int32)).toNatClampNeg) (xs (i + (2 : Int32)).toNatClampNeg) (xs (i + (3 : Int32)).toNatClampNeg) = some (r, σ')) (h2 : f_M_op N ρ (xs (i + (1 : Int32)).toNatClampNeg) (xs (i + (2 : Int32)).toNatClampNeg) (xs (i + (3 : Int32)).toNatClampNeg) = some (r, ρ')) {H : Heap} {locs : List Loc} {cells slots : Nat} {ls : Array Slot} (hP : va_P D vCl (wX g ca a σ ++ wM false ca a2 ρ) H) (hD : va_D (fun q : Nat => s.heap.size ≤ q) (wX g ca a σ ++ wM false ca a2 ρ)) (hS : va_S (fun q : Nat => s.heap.size ≤ q) s.heap H locs) (hl : lv_has ls 4 [(0, .ref b), (1, .ref (a 0)), (2, .ref (a2 0)), (3, .int i)]) (hc1 : cells + 12 ≤ 600000) (hs1 : slots + (100) ≤ 7302250) (kk : ∀ (H : Heap) (locs : List Loc), va_P D vCl (wX g ca a σ' ++ wM false ca a2 ρ') H → va_D (fun q : Nat => s.heap.size ≤ q) (wX g ca a σ' ++ wM false ca a2 ρ') → va_S (fun q : Nat => s.heap.size ≤ q) s.heap H locs → W p l e room_1 s m #[Value.ref b] below meth c H locs (cells + 12) (slots + (100)) (lw_Z below #[Value.ref b] s) (F0 m 902 ls [])) : W p l e room_1 s m #[Value.ref b] below meth c H locs cells slots (lw_Z below #[Value.ref b] s) (F0 m 467 ls []) := by
  obtain ⟨hx, hb, hr, hml, hown, hts, hX, hbl, hlocks, hgv⟩ := id C0
  have hA : ∀ q : Nat, s.heap.size ≤ q → (fun q : Nat => s.heap.size ≤ q) q := fun _ h => h
  have hbA : ¬ (fun q : Nat => s.heap.size ≤ q) b := Nat.not_le.mpr hbl
  have hB : ∀ w ∈ BIG, w.before #[Value.ref b] s = true := fun w h => hts w (bg_out h)
  have hcl : cells + 12 ≤ room_1.cells := hc1
  have hsl : slots + (100) ≤ room_1.slots := hs1
  refine lv_aload_n hx hb d_law_467 rfl (lv_at hl 1 rfl) ?_
  refine lv_aload_n hx hb d_law_468 rfl (lv_at hl 0 rfl) ?_
  refine lv_iload_n hx hb d_law_469 rfl (lv_at hl 3 rfl) ?_
  refine lv_iconst (v := (1 : Int32)) hx hb d_law_470 (by decide) ?_
  refine lv_iadd hx hb d_law_471 ?_
  refine va_sld hx hb hX hbl hbA hS (hin 1 (by decide)) d_law_472 ?_
  refine lv_aload_n hx hb d_law_473 rfl (lv_at hl 0 rfl) ?_
  refine lv_iload_n hx hb d_law_474 rfl (lv_at hl 3 rfl) ?_
  refine lv_iconst (v := (2 : Int32)) hx hb d_law_475 (by decide) ?_
  refine lv_iadd hx hb d_law_476 ?_
  refine va_sld hx hb hX hbl hbA hS (hin 2 (by decide)) d_law_477 ?_
  refine lv_aload_n hx hb d_law_478 rfl (lv_at hl 0 rfl) ?_
  refine lv_iload_n hx hb d_law_479 rfl (lv_at hl 3 rfl) ?_
  refine lv_iconst (v := (3 : Int32)) hx hb d_law_480 (by decide) ?_
  refine lv_iadd hx hb d_law_481 ?_
  refine va_sld hx hb hX hbl hbA hS (hin 3 (by decide)) d_law_482 ?_
  refine go_VI (rest := []) ⟨hx, hb, hml, hown, hB⟩ nwX_ok (c_Q_op l D ca g a (wM false ca a2 ρ) N σ σ' (xs (i + (1 : Int32)).toNatClampNeg) (xs (i + (2 : Int32)).toNatClampNeg) (xs (i + (3 : Int32)).toNatClampNeg) r h1) (cwx_V hB m_488 kw_Q_op ⟨by decide, by decide⟩ rfl rfl) (va_recv hK hP (ci := 0) (q0 := 0) rfl rfl) hN hK hP hD hS hA rfl hl.1 rfl (Nat.le_of_ble_eq_true rfl) d_law_483 ⟨Nat.le_trans (Nat.add_le_add_left (by decide) _) hcl, Nat.le_trans (Nat.add_le_add_left (by decide) _) hsl⟩ (fun H locs hP hD hS => ?_)
  replace hP := vP_perm List.perm_append_comm hP
  replace hD := vD_perm List.perm_append_comm hD
  have hcl : cells + 0 + 0 ≤ room_1.cells := by show _ ≤ 600000; omega
  have hsl : slots + 0 + 0 ≤ room_1.slots := by show _ ≤ 7302250; omega
  refine lv_aload_n hx hb d_law_486 rfl (lv_at hl 2 rfl) ?_
  refine lv_aload_n hx hb d_law_487 rfl (lv_at hl 0 rfl) ?_
  refine lv_iload_n hx hb d_law_488 rfl (lv_at hl 3 rfl) ?_
  refine lv_iconst (v := (1 : Int32)) hx hb d_law_489 (by decide) ?_
  refine lv_iadd hx hb d_law_490 ?_
  refine va_sld hx hb hX hbl hbA hS (hin 1 (by decide)) d_law_491 ?_
  refine lv_aload_n hx hb d_law_492 rfl (lv_at hl 0 rfl) ?_
  refine lv_iload_n hx hb d_law_493 rfl (lv_at hl 3 rfl) ?_
  refine lv_iconst (v := (2 : Int32)) hx hb d_law_494 (by decide) ?_
  refine lv_iadd hx hb d_law_495 ?_
  refine va_sld hx hb hX hbl hbA hS (hin 2 (by decide)) d_law_496 ?_
  refine lv_aload_n hx hb d_law_497 rfl (lv_at hl 0 rfl) ?_
  refine lv_iload_n hx hb d_law_498 rfl (lv_at hl 3 rfl) ?_
  refine lv_iconst (v := (3 : Int32)) hx hb d_law_499 (by decide) ?_
  refine lv_iadd hx hb d_law_500 ?_
  refine va_sld hx hb hX hbl hbA hS (hin 3 (by decide)) d_law_501 ?_
  refine go_VI (rest := [.int r]) ⟨hx, hb, hml, hown, hB⟩ nwM_ok (c_M_op l D ca false a2 (wX g ca a σ') N ρ ρ' (xs (i + (1 : Int32)).toNatClampNeg) (xs (i + (2 : Int32)).toNatClampNeg) (xs (i + (3 : Int32)).toNatClampNeg) r h2) (cwx_V hB m_1067 kw_M_op ⟨by decide, by decide⟩ rfl rfl) (va_recv hK hP (ci := 1) (q0 := 0) rfl rfl) (fun _ h => absurd h List.not_mem_nil) hK hP hD hS hA rfl hl.1 rfl (Nat.le_of_ble_eq_true rfl) d_law_502 ⟨Nat.le_trans (Nat.add_le_add_left (by decide) _) hcl, Nat.le_trans (Nat.add_le_add_left (by decide) _) hsl⟩ (fun H locs hP hD hS => ?_)
  replace hP := vP_perm List.perm_append_comm hP
  replace hD := vD_perm List.perm_append_comm hD
  refine lv_icmp_eq (tgt := 902) hx hb d_law_505 (by decide) (fun _ => ?_) (fun hc => absurd rfl hc)
  refine W.widen (k := cells + 12) (n := slots + (100)) (by omega) (by omega) ?_
  exact kk H locs hP hD hS
set_option maxRecDepth 100000 in
set_option maxHeartbeats 4000000 in
theorem lc_Q_aggregate {p : Program} {e : Env} {s : State} {m : MethodId} {below : List Frame} {meth : Method} {c : Code} (l : Launch) {b L : Nat} {xs : Nat → Int32} (C0 : lw_At p s m meth c b L xs) (D : va_G) (ca : Nat → ClassId) (a a2 : Nat → Nat) (N : Nat) (hK : va_K D vCl (tyA ca) s) (hN : ∀ w ∈ nwX, va_Nw w s) (i : Int32) (hin : ∀ k : Nat, k ≤ 10 → vp_in (i + Int32.ofNat k) L) (g : Bool) (σ ρ σ' ρ' : St) (r : Int32) (h1 : f_Q_aggregate N σ (xs (i + (1 : Int32)).toNatClampNeg) (xs (i + (2 : Int32)).toNatClampNeg) (bz (xs (i + (3 : Int32)).toNatClampNeg)) = some (r, σ')) (h2 : f_M_aggregate N ρ (xs (i + (1 : Int32)).toNatClampNeg) (xs (i + (2 : Int32)).toNatClampNeg) (bz (xs (i + (3 : Int32)).toNatClampNeg)) = some (r, ρ')) {H : Heap} {locs : List Loc} {cells slots : Nat} {ls : Array Slot} (hP : va_P D vCl (wX g ca a σ ++ wM false ca a2 ρ) H) (hD : va_D (fun q : Nat => s.heap.size ≤ q) (wX g ca a σ ++ wM false ca a2 ρ)) (hS : va_S (fun q : Nat => s.heap.size ≤ q) s.heap H locs) (hl : lv_has ls 4 [(0, .ref b), (1, .ref (a 0)), (2, .ref (a2 0)), (3, .int i)]) (hc1 : cells + 12 ≤ 600000) (hs1 : slots + (100) ≤ 7302250) (kk : ∀ (H : Heap) (locs : List Loc), va_P D vCl (wX g ca a σ' ++ wM false ca a2 ρ') H → va_D (fun q : Nat => s.heap.size ≤ q) (wX g ca a σ' ++ wM false ca a2 ρ') → va_S (fun q : Nat => s.heap.size ≤ q) s.heap H locs → W p l e room_1 s m #[Value.ref b] below meth c H locs (cells + 12) (slots + (100)) (lw_Z below #[Value.ref b] s) (F0 m 902 ls [])) : W p l e room_1 s m #[Value.ref b] below meth c H locs cells slots (lw_Z below #[Value.ref b] s) (F0 m 510 ls []) := by
  obtain ⟨hx, hb, hr, hml, hown, hts, hX, hbl, hlocks, hgv⟩ := id C0
  have hA : ∀ q : Nat, s.heap.size ≤ q → (fun q : Nat => s.heap.size ≤ q) q := fun _ h => h
  have hbA : ¬ (fun q : Nat => s.heap.size ≤ q) b := Nat.not_le.mpr hbl
  have hB : ∀ w ∈ BIG, w.before #[Value.ref b] s = true := fun w h => hts w (bg_out h)
  have hcl : cells + 12 ≤ room_1.cells := hc1
  have hsl : slots + (100) ≤ room_1.slots := hs1
  refine lv_aload_n hx hb d_law_510 rfl (lv_at hl 1 rfl) ?_
  refine lv_aload_n hx hb d_law_511 rfl (lv_at hl 0 rfl) ?_
  refine lv_iload_n hx hb d_law_512 rfl (lv_at hl 3 rfl) ?_
  refine lv_iconst (v := (1 : Int32)) hx hb d_law_513 (by decide) ?_
  refine lv_iadd hx hb d_law_514 ?_
  refine va_sld hx hb hX hbl hbA hS (hin 1 (by decide)) d_law_515 ?_
  refine lv_aload_n hx hb d_law_516 rfl (lv_at hl 0 rfl) ?_
  refine lv_iload_n hx hb d_law_517 rfl (lv_at hl 3 rfl) ?_
  refine lv_iconst (v := (2 : Int32)) hx hb d_law_518 (by decide) ?_
  refine lv_iadd hx hb d_law_519 ?_
  refine va_sld hx hb hX hbl hbA hS (hin 2 (by decide)) d_law_520 ?_
  refine lv_aload_n hx hb d_law_521 rfl (lv_at hl 0 rfl) ?_
  refine lv_iload_n hx hb d_law_522 rfl (lv_at hl 3 rfl) ?_
  refine lv_iconst (v := (3 : Int32)) hx hb d_law_523 (by decide) ?_
  refine lv_iadd hx hb d_law_524 ?_
  refine va_sld hx hb hX hbl hbA hS (hin 3 (by decide)) d_law_525 ?_
  refine lw_bool hx hb d_law_526 d_law_529 d_law_530 d_law_533 ?_
  refine go_VI (rest := []) ⟨hx, hb, hml, hown, hB⟩ nwX_ok (c_Q_aggregate l D ca g a (wM false ca a2 ρ) N σ σ' (xs (i + (1 : Int32)).toNatClampNeg) (xs (i + (2 : Int32)).toNatClampNeg) (bz (xs (i + (3 : Int32)).toNatClampNeg)) r h1) (cwx_V hB m_497 kw_Q_aggregate ⟨by decide, by decide⟩ rfl rfl) (va_recv hK hP (ci := 0) (q0 := 0) rfl rfl) hN hK hP hD hS hA rfl hl.1 rfl (Nat.le_of_ble_eq_true rfl) d_law_534 ⟨Nat.le_trans (Nat.add_le_add_left (by decide) _) hcl, Nat.le_trans (Nat.add_le_add_left (by decide) _) hsl⟩ (fun H locs hP hD hS => ?_)
  replace hP := vP_perm List.perm_append_comm hP
  replace hD := vD_perm List.perm_append_comm hD
  have hcl : cells + 0 + 0 ≤ room_1.cells := by show _ ≤ 600000; omega
  have hsl : slots + 0 + 0 ≤ room_1.slots := by show _ ≤ 7302250; omega
  refine lv_aload_n hx hb d_law_537 rfl (lv_at hl 2 rfl) ?_
  refine lv_aload_n hx hb d_law_538 rfl (lv_at hl 0 rfl) ?_
  refine lv_iload_n hx hb d_law_539 rfl (lv_at hl 3 rfl) ?_
  refine lv_iconst (v := (1 : Int32)) hx hb d_law_540 (by decide) ?_
  refine lv_iadd hx hb d_law_541 ?_
  refine va_sld hx hb hX hbl hbA hS (hin 1 (by decide)) d_law_542 ?_
  refine lv_aload_n hx hb d_law_543 rfl (lv_at hl 0 rfl) ?_
  refine lv_iload_n hx hb d_law_544 rfl (lv_at hl 3 rfl) ?_
  refine lv_iconst (v := (2 : Int32)) hx hb d_law_545 (by decide) ?_
  refine lv_iadd hx hb d_law_546 ?_
  refine va_sld hx hb hX hbl hbA hS (hin 2 (by decide)) d_law_547 ?_
  refine lv_aload_n hx hb d_law_548 rfl (lv_at hl 0 rfl) ?_
  refine lv_iload_n hx hb d_law_549 rfl (lv_at hl 3 rfl) ?_
  refine lv_iconst (v := (3 : Int32)) hx hb d_law_550 (by decide) ?_
  refine lv_iadd hx hb d_law_551 ?_
  refine va_sld hx hb hX hbl hbA hS (hin 3 (by decide)) d_law_552 ?_
  refine lw_bool hx hb d_law_553 d_law_556 d_law_557 d_law_560 ?_
  refine go_VI (rest := [.int r]) ⟨hx, hb, hml, hown, hB⟩ nwM_ok (c_M_aggregate l D ca false a2 (wX g ca a σ') N ρ ρ' (xs (i + (1 : Int32)).toNatClampNeg) (xs (i + (2 : Int32)).toNatClampNeg) (bz (xs (i + (3 : Int32)).toNatClampNeg)) r h2) (cwx_V hB m_1084 kw_M_aggregate ⟨by decide, by decide⟩ rfl rfl) (va_recv hK hP (ci := 1) (q0 := 0) rfl rfl) (fun _ h => absurd h List.not_mem_nil) hK hP hD hS hA rfl hl.1 rfl (Nat.le_of_ble_eq_true rfl) d_law_561 ⟨Nat.le_trans (Nat.add_le_add_left (by decide) _) hcl, Nat.le_trans (Nat.add_le_add_left (by decide) _) hsl⟩ (fun H locs hP hD hS => ?_)
  replace hP := vP_perm List.perm_append_comm hP
  replace hD := vD_perm List.perm_append_comm hD
  refine lv_icmp_eq (tgt := 902) hx hb d_law_564 (by decide) (fun _ => ?_) (fun hc => absurd rfl hc)
  refine W.widen (k := cells + 12) (n := slots + (100)) (by omega) (by omega) ?_
  exact kk H locs hP hD hS
set_option maxRecDepth 100000 in
set_option maxHeartbeats 4000000 in
theorem lc_Q_source {p : Program} {e : Env} {s : State} {m : MethodId} {below : List Frame} {meth : Method} {c : Code} (l : Launch) {b L : Nat} {xs : Nat → Int32} (C0 : lw_At p s m meth c b L xs) (D : va_G) (ca : Nat → ClassId) (a a2 : Nat → Nat) (N : Nat) (hK : va_K D vCl (tyA ca) s) (hN : ∀ w ∈ nwX, va_Nw w s) (i : Int32) (hin : ∀ k : Nat, k ≤ 10 → vp_in (i + Int32.ofNat k) L) (g : Bool) (σ ρ σ' ρ' : St) (r : Int32) (h1 : f_Q_source N σ (xs (i + (1 : Int32)).toNatClampNeg) (xs (i + (2 : Int32)).toNatClampNeg) (xs (i + (3 : Int32)).toNatClampNeg) = some (r, σ')) (h2 : f_M_source N ρ (xs (i + (1 : Int32)).toNatClampNeg) (xs (i + (2 : Int32)).toNatClampNeg) (xs (i + (3 : Int32)).toNatClampNeg) = some (r, ρ')) {H : Heap} {locs : List Loc} {cells slots : Nat} {ls : Array Slot} (hP : va_P D vCl (wX g ca a σ ++ wM false ca a2 ρ) H) (hD : va_D (fun q : Nat => s.heap.size ≤ q) (wX g ca a σ ++ wM false ca a2 ρ)) (hS : va_S (fun q : Nat => s.heap.size ≤ q) s.heap H locs) (hl : lv_has ls 4 [(0, .ref b), (1, .ref (a 0)), (2, .ref (a2 0)), (3, .int i)]) (hc1 : cells + 12 ≤ 600000) (hs1 : slots + (100) ≤ 7302250) (kk : ∀ (H : Heap) (locs : List Loc), va_P D vCl (wX g ca a σ' ++ wM false ca a2 ρ') H → va_D (fun q : Nat => s.heap.size ≤ q) (wX g ca a σ' ++ wM false ca a2 ρ') → va_S (fun q : Nat => s.heap.size ≤ q) s.heap H locs → W p l e room_1 s m #[Value.ref b] below meth c H locs (cells + 12) (slots + (100)) (lw_Z below #[Value.ref b] s) (F0 m 902 ls [])) : W p l e room_1 s m #[Value.ref b] below meth c H locs cells slots (lw_Z below #[Value.ref b] s) (F0 m 569 ls []) := by
  obtain ⟨hx, hb, hr, hml, hown, hts, hX, hbl, hlocks, hgv⟩ := id C0
  have hA : ∀ q : Nat, s.heap.size ≤ q → (fun q : Nat => s.heap.size ≤ q) q := fun _ h => h
  have hbA : ¬ (fun q : Nat => s.heap.size ≤ q) b := Nat.not_le.mpr hbl
  have hB : ∀ w ∈ BIG, w.before #[Value.ref b] s = true := fun w h => hts w (bg_out h)
  have hcl : cells + 12 ≤ room_1.cells := hc1
  have hsl : slots + (100) ≤ room_1.slots := hs1
  refine lv_aload_n hx hb d_law_569 rfl (lv_at hl 1 rfl) ?_
  refine lv_aload_n hx hb d_law_570 rfl (lv_at hl 0 rfl) ?_
  refine lv_iload_n hx hb d_law_571 rfl (lv_at hl 3 rfl) ?_
  refine lv_iconst (v := (1 : Int32)) hx hb d_law_572 (by decide) ?_
  refine lv_iadd hx hb d_law_573 ?_
  refine va_sld hx hb hX hbl hbA hS (hin 1 (by decide)) d_law_574 ?_
  refine lv_aload_n hx hb d_law_575 rfl (lv_at hl 0 rfl) ?_
  refine lv_iload_n hx hb d_law_576 rfl (lv_at hl 3 rfl) ?_
  refine lv_iconst (v := (2 : Int32)) hx hb d_law_577 (by decide) ?_
  refine lv_iadd hx hb d_law_578 ?_
  refine va_sld hx hb hX hbl hbA hS (hin 2 (by decide)) d_law_579 ?_
  refine lv_aload_n hx hb d_law_580 rfl (lv_at hl 0 rfl) ?_
  refine lv_iload_n hx hb d_law_581 rfl (lv_at hl 3 rfl) ?_
  refine lv_iconst (v := (3 : Int32)) hx hb d_law_582 (by decide) ?_
  refine lv_iadd hx hb d_law_583 ?_
  refine va_sld hx hb hX hbl hbA hS (hin 3 (by decide)) d_law_584 ?_
  refine go_VI (rest := []) ⟨hx, hb, hml, hown, hB⟩ nwX_ok (c_Q_source l D ca g a (wM false ca a2 ρ) N σ σ' (xs (i + (1 : Int32)).toNatClampNeg) (xs (i + (2 : Int32)).toNatClampNeg) (xs (i + (3 : Int32)).toNatClampNeg) r h1) (cwx_V hB m_506 kw_Q_source ⟨by decide, by decide⟩ rfl rfl) (va_recv hK hP (ci := 0) (q0 := 0) rfl rfl) hN hK hP hD hS hA rfl hl.1 rfl (Nat.le_of_ble_eq_true rfl) d_law_585 ⟨Nat.le_trans (Nat.add_le_add_left (by decide) _) hcl, Nat.le_trans (Nat.add_le_add_left (by decide) _) hsl⟩ (fun H locs hP hD hS => ?_)
  replace hP := vP_perm List.perm_append_comm hP
  replace hD := vD_perm List.perm_append_comm hD
  have hcl : cells + 0 + 0 ≤ room_1.cells := by show _ ≤ 600000; omega
  have hsl : slots + 0 + 0 ≤ room_1.slots := by show _ ≤ 7302250; omega
  refine lv_aload_n hx hb d_law_588 rfl (lv_at hl 2 rfl) ?_
  refine lv_aload_n hx hb d_law_589 rfl (lv_at hl 0 rfl) ?_
  refine lv_iload_n hx hb d_law_590 rfl (lv_at hl 3 rfl) ?_
  refine lv_iconst (v := (1 : Int32)) hx hb d_law_591 (by decide) ?_
  refine lv_iadd hx hb d_law_592 ?_
  refine va_sld hx hb hX hbl hbA hS (hin 1 (by decide)) d_law_593 ?_
  refine lv_aload_n hx hb d_law_594 rfl (lv_at hl 0 rfl) ?_
  refine lv_iload_n hx hb d_law_595 rfl (lv_at hl 3 rfl) ?_
  refine lv_iconst (v := (2 : Int32)) hx hb d_law_596 (by decide) ?_
  refine lv_iadd hx hb d_law_597 ?_
  refine va_sld hx hb hX hbl hbA hS (hin 2 (by decide)) d_law_598 ?_
  refine lv_aload_n hx hb d_law_599 rfl (lv_at hl 0 rfl) ?_
  refine lv_iload_n hx hb d_law_600 rfl (lv_at hl 3 rfl) ?_
  refine lv_iconst (v := (3 : Int32)) hx hb d_law_601 (by decide) ?_
  refine lv_iadd hx hb d_law_602 ?_
  refine va_sld hx hb hX hbl hbA hS (hin 3 (by decide)) d_law_603 ?_
  refine go_VI (rest := [.int r]) ⟨hx, hb, hml, hown, hB⟩ nwM_ok (c_M_source l D ca false a2 (wX g ca a σ') N ρ ρ' (xs (i + (1 : Int32)).toNatClampNeg) (xs (i + (2 : Int32)).toNatClampNeg) (xs (i + (3 : Int32)).toNatClampNeg) r h2) (cwx_V hB m_1089 kw_M_source ⟨by decide, by decide⟩ rfl rfl) (va_recv hK hP (ci := 1) (q0 := 0) rfl rfl) (fun _ h => absurd h List.not_mem_nil) hK hP hD hS hA rfl hl.1 rfl (Nat.le_of_ble_eq_true rfl) d_law_604 ⟨Nat.le_trans (Nat.add_le_add_left (by decide) _) hcl, Nat.le_trans (Nat.add_le_add_left (by decide) _) hsl⟩ (fun H locs hP hD hS => ?_)
  replace hP := vP_perm List.perm_append_comm hP
  replace hD := vD_perm List.perm_append_comm hD
  refine lv_icmp_eq (tgt := 902) hx hb d_law_607 (by decide) (fun _ => ?_) (fun hc => absurd rfl hc)
  refine W.widen (k := cells + 12) (n := slots + (100)) (by omega) (by omega) ?_
  exact kk H locs hP hD hS
set_option maxRecDepth 100000 in
set_option maxHeartbeats 4000000 in
theorem lc_Q_condition {p : Program} {e : Env} {s : State} {m : MethodId} {below : List Frame} {meth : Method} {c : Code} (l : Launch) {b L : Nat} {xs : Nat → Int32} (C0 : lw_At p s m meth c b L xs) (D : va_G) (ca : Nat → ClassId) (a a2 : Nat → Nat) (N : Nat) (hK : va_K D vCl (tyA ca) s) (hN : ∀ w ∈ nwX, va_Nw w s) (i : Int32) (hin : ∀ k : Nat, k ≤ 10 → vp_in (i + Int32.ofNat k) L) (g : Bool) (σ ρ σ' ρ' : St) (r : Int32) (h1 : f_Q_condition N σ (xs (i + (1 : Int32)).toNatClampNeg) (xs (i + (2 : Int32)).toNatClampNeg) = some (r, σ')) (h2 : f_M_condition N ρ (xs (i + (1 : Int32)).toNatClampNeg) (xs (i + (2 : Int32)).toNatClampNeg) = some (r, ρ')) {H : Heap} {locs : List Loc} {cells slots : Nat} {ls : Array Slot} (hP : va_P D vCl (wX g ca a σ ++ wM false ca a2 ρ) H) (hD : va_D (fun q : Nat => s.heap.size ≤ q) (wX g ca a σ ++ wM false ca a2 ρ)) (hS : va_S (fun q : Nat => s.heap.size ≤ q) s.heap H locs) (hl : lv_has ls 4 [(0, .ref b), (1, .ref (a 0)), (2, .ref (a2 0)), (3, .int i)]) (hc1 : cells + 12 ≤ 600000) (hs1 : slots + (100) ≤ 7302250) (kk : ∀ (H : Heap) (locs : List Loc), va_P D vCl (wX g ca a σ' ++ wM false ca a2 ρ') H → va_D (fun q : Nat => s.heap.size ≤ q) (wX g ca a σ' ++ wM false ca a2 ρ') → va_S (fun q : Nat => s.heap.size ≤ q) s.heap H locs → W p l e room_1 s m #[Value.ref b] below meth c H locs (cells + 12) (slots + (100)) (lw_Z below #[Value.ref b] s) (F0 m 902 ls [])) : W p l e room_1 s m #[Value.ref b] below meth c H locs cells slots (lw_Z below #[Value.ref b] s) (F0 m 612 ls []) := by
  obtain ⟨hx, hb, hr, hml, hown, hts, hX, hbl, hlocks, hgv⟩ := id C0
  have hA : ∀ q : Nat, s.heap.size ≤ q → (fun q : Nat => s.heap.size ≤ q) q := fun _ h => h
  have hbA : ¬ (fun q : Nat => s.heap.size ≤ q) b := Nat.not_le.mpr hbl
  have hB : ∀ w ∈ BIG, w.before #[Value.ref b] s = true := fun w h => hts w (bg_out h)
  have hcl : cells + 12 ≤ room_1.cells := hc1
  have hsl : slots + (100) ≤ room_1.slots := hs1
  refine lv_aload_n hx hb d_law_612 rfl (lv_at hl 1 rfl) ?_
  refine lv_aload_n hx hb d_law_613 rfl (lv_at hl 0 rfl) ?_
  refine lv_iload_n hx hb d_law_614 rfl (lv_at hl 3 rfl) ?_
  refine lv_iconst (v := (1 : Int32)) hx hb d_law_615 (by decide) ?_
  refine lv_iadd hx hb d_law_616 ?_
  refine va_sld hx hb hX hbl hbA hS (hin 1 (by decide)) d_law_617 ?_
  refine lv_aload_n hx hb d_law_618 rfl (lv_at hl 0 rfl) ?_
  refine lv_iload_n hx hb d_law_619 rfl (lv_at hl 3 rfl) ?_
  refine lv_iconst (v := (2 : Int32)) hx hb d_law_620 (by decide) ?_
  refine lv_iadd hx hb d_law_621 ?_
  refine va_sld hx hb hX hbl hbA hS (hin 2 (by decide)) d_law_622 ?_
  refine go_VI (rest := []) ⟨hx, hb, hml, hown, hB⟩ nwX_ok (c_Q_condition l D ca g a (wM false ca a2 ρ) N σ σ' (xs (i + (1 : Int32)).toNatClampNeg) (xs (i + (2 : Int32)).toNatClampNeg) r h1) (cwx_V hB m_514 kw_Q_condition ⟨by decide, by decide⟩ rfl rfl) (va_recv hK hP (ci := 0) (q0 := 0) rfl rfl) hN hK hP hD hS hA rfl hl.1 rfl (Nat.le_of_ble_eq_true rfl) d_law_623 ⟨Nat.le_trans (Nat.add_le_add_left (by decide) _) hcl, Nat.le_trans (Nat.add_le_add_left (by decide) _) hsl⟩ (fun H locs hP hD hS => ?_)
  replace hP := vP_perm List.perm_append_comm hP
  replace hD := vD_perm List.perm_append_comm hD
  have hcl : cells + 0 + 0 ≤ room_1.cells := by show _ ≤ 600000; omega
  have hsl : slots + 0 + 0 ≤ room_1.slots := by show _ ≤ 7302250; omega
  refine lv_aload_n hx hb d_law_626 rfl (lv_at hl 2 rfl) ?_
  refine lv_aload_n hx hb d_law_627 rfl (lv_at hl 0 rfl) ?_
  refine lv_iload_n hx hb d_law_628 rfl (lv_at hl 3 rfl) ?_
  refine lv_iconst (v := (1 : Int32)) hx hb d_law_629 (by decide) ?_
  refine lv_iadd hx hb d_law_630 ?_
  refine va_sld hx hb hX hbl hbA hS (hin 1 (by decide)) d_law_631 ?_
  refine lv_aload_n hx hb d_law_632 rfl (lv_at hl 0 rfl) ?_
  refine lv_iload_n hx hb d_law_633 rfl (lv_at hl 3 rfl) ?_
  refine lv_iconst (v := (2 : Int32)) hx hb d_law_634 (by decide) ?_
  refine lv_iadd hx hb d_law_635 ?_
  refine va_sld hx hb hX hbl hbA hS (hin 2 (by decide)) d_law_636 ?_
  refine go_VI (rest := [.int r]) ⟨hx, hb, hml, hown, hB⟩ nwM_ok (c_M_condition l D ca false a2 (wX g ca a σ') N ρ ρ' (xs (i + (1 : Int32)).toNatClampNeg) (xs (i + (2 : Int32)).toNatClampNeg) r h2) (cwx_V hB m_1093 kw_M_condition ⟨by decide, by decide⟩ rfl rfl) (va_recv hK hP (ci := 1) (q0 := 0) rfl rfl) (fun _ h => absurd h List.not_mem_nil) hK hP hD hS hA rfl hl.1 rfl (Nat.le_of_ble_eq_true rfl) d_law_637 ⟨Nat.le_trans (Nat.add_le_add_left (by decide) _) hcl, Nat.le_trans (Nat.add_le_add_left (by decide) _) hsl⟩ (fun H locs hP hD hS => ?_)
  replace hP := vP_perm List.perm_append_comm hP
  replace hD := vD_perm List.perm_append_comm hD
  refine lv_icmp_eq (tgt := 902) hx hb d_law_640 (by decide) (fun _ => ?_) (fun hc => absurd rfl hc)
  refine W.widen (k := cells + 12) (n := slots + (100)) (by omega) (by omega) ?_
  exact kk H locs hP hD hS
set_option maxRecDepth 100000 in
set_option maxHeartbeats 4000000 in
theorem lc_Q_group {p : Program} {e : Env} {s : State} {m : MethodId} {below : List Frame} {meth : Method} {c : Code} (l : Launch) {b L : Nat} {xs : Nat → Int32} (C0 : lw_At p s m meth c b L xs) (D : va_G) (ca : Nat → ClassId) (a a2 : Nat → Nat) (N : Nat) (hK : va_K D vCl (tyA ca) s) (hN : ∀ w ∈ nwX, va_Nw w s) (i : Int32) (hin : ∀ k : Nat, k ≤ 10 → vp_in (i + Int32.ofNat k) L) (g : Bool) (σ ρ σ' ρ' : St) (r : Int32) (h1 : f_Q_group N σ (xs (i + (1 : Int32)).toNatClampNeg) = some (r, σ')) (h2 : f_M_group N ρ (xs (i + (1 : Int32)).toNatClampNeg) = some (r, ρ')) {H : Heap} {locs : List Loc} {cells slots : Nat} {ls : Array Slot} (hP : va_P D vCl (wX g ca a σ ++ wM false ca a2 ρ) H) (hD : va_D (fun q : Nat => s.heap.size ≤ q) (wX g ca a σ ++ wM false ca a2 ρ)) (hS : va_S (fun q : Nat => s.heap.size ≤ q) s.heap H locs) (hl : lv_has ls 4 [(0, .ref b), (1, .ref (a 0)), (2, .ref (a2 0)), (3, .int i)]) (hc1 : cells + 12 ≤ 600000) (hs1 : slots + (100) ≤ 7302250) (kk : ∀ (H : Heap) (locs : List Loc), va_P D vCl (wX g ca a σ' ++ wM false ca a2 ρ') H → va_D (fun q : Nat => s.heap.size ≤ q) (wX g ca a σ' ++ wM false ca a2 ρ') → va_S (fun q : Nat => s.heap.size ≤ q) s.heap H locs → W p l e room_1 s m #[Value.ref b] below meth c H locs (cells + 12) (slots + (100)) (lw_Z below #[Value.ref b] s) (F0 m 902 ls [])) : W p l e room_1 s m #[Value.ref b] below meth c H locs cells slots (lw_Z below #[Value.ref b] s) (F0 m 645 ls []) := by
  obtain ⟨hx, hb, hr, hml, hown, hts, hX, hbl, hlocks, hgv⟩ := id C0
  have hA : ∀ q : Nat, s.heap.size ≤ q → (fun q : Nat => s.heap.size ≤ q) q := fun _ h => h
  have hbA : ¬ (fun q : Nat => s.heap.size ≤ q) b := Nat.not_le.mpr hbl
  have hB : ∀ w ∈ BIG, w.before #[Value.ref b] s = true := fun w h => hts w (bg_out h)
  have hcl : cells + 12 ≤ room_1.cells := hc1
  have hsl : slots + (100) ≤ room_1.slots := hs1
  refine lv_aload_n hx hb d_law_645 rfl (lv_at hl 1 rfl) ?_
  refine lv_aload_n hx hb d_law_646 rfl (lv_at hl 0 rfl) ?_
  refine lv_iload_n hx hb d_law_647 rfl (lv_at hl 3 rfl) ?_
  refine lv_iconst (v := (1 : Int32)) hx hb d_law_648 (by decide) ?_
  refine lv_iadd hx hb d_law_649 ?_
  refine va_sld hx hb hX hbl hbA hS (hin 1 (by decide)) d_law_650 ?_
  refine go_VI (rest := []) ⟨hx, hb, hml, hown, hB⟩ nwX_ok (c_Q_group l D ca g a (wM false ca a2 ρ) N σ σ' (xs (i + (1 : Int32)).toNatClampNeg) r h1) (cwx_V hB m_518 kw_Q_group ⟨by decide, by decide⟩ rfl rfl) (va_recv hK hP (ci := 0) (q0 := 0) rfl rfl) hN hK hP hD hS hA rfl hl.1 rfl (Nat.le_of_ble_eq_true rfl) d_law_651 ⟨Nat.le_trans (Nat.add_le_add_left (by decide) _) hcl, Nat.le_trans (Nat.add_le_add_left (by decide) _) hsl⟩ (fun H locs hP hD hS => ?_)
  replace hP := vP_perm List.perm_append_comm hP
  replace hD := vD_perm List.perm_append_comm hD
  have hcl : cells + 0 + 0 ≤ room_1.cells := by show _ ≤ 600000; omega
  have hsl : slots + 0 + 0 ≤ room_1.slots := by show _ ≤ 7302250; omega
  refine lv_aload_n hx hb d_law_654 rfl (lv_at hl 2 rfl) ?_
  refine lv_aload_n hx hb d_law_655 rfl (lv_at hl 0 rfl) ?_
  refine lv_iload_n hx hb d_law_656 rfl (lv_at hl 3 rfl) ?_
  refine lv_iconst (v := (1 : Int32)) hx hb d_law_657 (by decide) ?_
  refine lv_iadd hx hb d_law_658 ?_
  refine va_sld hx hb hX hbl hbA hS (hin 1 (by decide)) d_law_659 ?_
  refine go_VI (rest := [.int r]) ⟨hx, hb, hml, hown, hB⟩ nwM_ok (c_M_group l D ca false a2 (wX g ca a σ') N ρ ρ' (xs (i + (1 : Int32)).toNatClampNeg) r h2) (cwx_V hB m_1097 kw_M_group ⟨by decide, by decide⟩ rfl rfl) (va_recv hK hP (ci := 1) (q0 := 0) rfl rfl) (fun _ h => absurd h List.not_mem_nil) hK hP hD hS hA rfl hl.1 rfl (Nat.le_of_ble_eq_true rfl) d_law_660 ⟨Nat.le_trans (Nat.add_le_add_left (by decide) _) hcl, Nat.le_trans (Nat.add_le_add_left (by decide) _) hsl⟩ (fun H locs hP hD hS => ?_)
  replace hP := vP_perm List.perm_append_comm hP
  replace hD := vD_perm List.perm_append_comm hD
  refine lv_icmp_eq (tgt := 902) hx hb d_law_663 (by decide) (fun _ => ?_) (fun hc => absurd rfl hc)
  refine W.widen (k := cells + 12) (n := slots + (100)) (by omega) (by omega) ?_
  exact kk H locs hP hD hS
set_option maxRecDepth 100000 in
set_option maxHeartbeats 4000000 in
theorem lc_Q_item {p : Program} {e : Env} {s : State} {m : MethodId} {below : List Frame} {meth : Method} {c : Code} (l : Launch) {b L : Nat} {xs : Nat → Int32} (C0 : lw_At p s m meth c b L xs) (D : va_G) (ca : Nat → ClassId) (a a2 : Nat → Nat) (N : Nat) (hK : va_K D vCl (tyA ca) s) (hN : ∀ w ∈ nwX, va_Nw w s) (i : Int32) (hin : ∀ k : Nat, k ≤ 10 → vp_in (i + Int32.ofNat k) L) (g : Bool) (σ ρ σ' ρ' : St) (r : Int32) (h1 : f_Q_item N σ (xs (i + (1 : Int32)).toNatClampNeg) = some (r, σ')) (h2 : f_M_item N ρ (xs (i + (1 : Int32)).toNatClampNeg) = some (r, ρ')) {H : Heap} {locs : List Loc} {cells slots : Nat} {ls : Array Slot} (hP : va_P D vCl (wX g ca a σ ++ wM false ca a2 ρ) H) (hD : va_D (fun q : Nat => s.heap.size ≤ q) (wX g ca a σ ++ wM false ca a2 ρ)) (hS : va_S (fun q : Nat => s.heap.size ≤ q) s.heap H locs) (hl : lv_has ls 4 [(0, .ref b), (1, .ref (a 0)), (2, .ref (a2 0)), (3, .int i)]) (hc1 : cells + 12 ≤ 600000) (hs1 : slots + (100) ≤ 7302250) (kk : ∀ (H : Heap) (locs : List Loc), va_P D vCl (wX g ca a σ' ++ wM false ca a2 ρ') H → va_D (fun q : Nat => s.heap.size ≤ q) (wX g ca a σ' ++ wM false ca a2 ρ') → va_S (fun q : Nat => s.heap.size ≤ q) s.heap H locs → W p l e room_1 s m #[Value.ref b] below meth c H locs (cells + 12) (slots + (100)) (lw_Z below #[Value.ref b] s) (F0 m 902 ls [])) : W p l e room_1 s m #[Value.ref b] below meth c H locs cells slots (lw_Z below #[Value.ref b] s) (F0 m 668 ls []) := by
  obtain ⟨hx, hb, hr, hml, hown, hts, hX, hbl, hlocks, hgv⟩ := id C0
  have hA : ∀ q : Nat, s.heap.size ≤ q → (fun q : Nat => s.heap.size ≤ q) q := fun _ h => h
  have hbA : ¬ (fun q : Nat => s.heap.size ≤ q) b := Nat.not_le.mpr hbl
  have hB : ∀ w ∈ BIG, w.before #[Value.ref b] s = true := fun w h => hts w (bg_out h)
  have hcl : cells + 12 ≤ room_1.cells := hc1
  have hsl : slots + (100) ≤ room_1.slots := hs1
  refine lv_aload_n hx hb d_law_668 rfl (lv_at hl 1 rfl) ?_
  refine lv_aload_n hx hb d_law_669 rfl (lv_at hl 0 rfl) ?_
  refine lv_iload_n hx hb d_law_670 rfl (lv_at hl 3 rfl) ?_
  refine lv_iconst (v := (1 : Int32)) hx hb d_law_671 (by decide) ?_
  refine lv_iadd hx hb d_law_672 ?_
  refine va_sld hx hb hX hbl hbA hS (hin 1 (by decide)) d_law_673 ?_
  refine go_VI (rest := []) ⟨hx, hb, hml, hown, hB⟩ nwX_ok (c_Q_item l D ca g a (wM false ca a2 ρ) N σ σ' (xs (i + (1 : Int32)).toNatClampNeg) r h1) (cwx_V hB m_526 kw_Q_item ⟨by decide, by decide⟩ rfl rfl) (va_recv hK hP (ci := 0) (q0 := 0) rfl rfl) hN hK hP hD hS hA rfl hl.1 rfl (Nat.le_of_ble_eq_true rfl) d_law_674 ⟨Nat.le_trans (Nat.add_le_add_left (by decide) _) hcl, Nat.le_trans (Nat.add_le_add_left (by decide) _) hsl⟩ (fun H locs hP hD hS => ?_)
  replace hP := vP_perm List.perm_append_comm hP
  replace hD := vD_perm List.perm_append_comm hD
  have hcl : cells + 0 + 0 ≤ room_1.cells := by show _ ≤ 600000; omega
  have hsl : slots + 0 + 0 ≤ room_1.slots := by show _ ≤ 7302250; omega
  refine lv_aload_n hx hb d_law_677 rfl (lv_at hl 2 rfl) ?_
  refine lv_aload_n hx hb d_law_678 rfl (lv_at hl 0 rfl) ?_
  refine lv_iload_n hx hb d_law_679 rfl (lv_at hl 3 rfl) ?_
  refine lv_iconst (v := (1 : Int32)) hx hb d_law_680 (by decide) ?_
  refine lv_iadd hx hb d_law_681 ?_
  refine va_sld hx hb hX hbl hbA hS (hin 1 (by decide)) d_law_682 ?_
  refine go_VI (rest := [.int r]) ⟨hx, hb, hml, hown, hB⟩ nwM_ok (c_M_item l D ca false a2 (wX g ca a σ') N ρ ρ' (xs (i + (1 : Int32)).toNatClampNeg) r h2) (cwx_V hB m_1101 kw_M_item ⟨by decide, by decide⟩ rfl rfl) (va_recv hK hP (ci := 1) (q0 := 0) rfl rfl) (fun _ h => absurd h List.not_mem_nil) hK hP hD hS hA rfl hl.1 rfl (Nat.le_of_ble_eq_true rfl) d_law_683 ⟨Nat.le_trans (Nat.add_le_add_left (by decide) _) hcl, Nat.le_trans (Nat.add_le_add_left (by decide) _) hsl⟩ (fun H locs hP hD hS => ?_)
  replace hP := vP_perm List.perm_append_comm hP
  replace hD := vD_perm List.perm_append_comm hD
  refine lv_icmp_eq (tgt := 902) hx hb d_law_686 (by decide) (fun _ => ?_) (fun hc => absurd rfl hc)
  refine W.widen (k := cells + 12) (n := slots + (100)) (by omega) (by omega) ?_
  exact kk H locs hP hD hS
set_option maxRecDepth 100000 in
set_option maxHeartbeats 4000000 in
theorem lc_Q_order {p : Program} {e : Env} {s : State} {m : MethodId} {below : List Frame} {meth : Method} {c : Code} (l : Launch) {b L : Nat} {xs : Nat → Int32} (C0 : lw_At p s m meth c b L xs) (D : va_G) (ca : Nat → ClassId) (a a2 : Nat → Nat) (N : Nat) (hK : va_K D vCl (tyA ca) s) (hN : ∀ w ∈ nwX, va_Nw w s) (i : Int32) (hin : ∀ k : Nat, k ≤ 10 → vp_in (i + Int32.ofNat k) L) (g : Bool) (σ ρ σ' ρ' : St) (r : Int32) (h1 : f_Q_order N σ (xs (i + (1 : Int32)).toNatClampNeg) (bz (xs (i + (2 : Int32)).toNatClampNeg)) = some (r, σ')) (h2 : f_M_order N ρ (xs (i + (1 : Int32)).toNatClampNeg) (bz (xs (i + (2 : Int32)).toNatClampNeg)) = some (r, ρ')) {H : Heap} {locs : List Loc} {cells slots : Nat} {ls : Array Slot} (hP : va_P D vCl (wX g ca a σ ++ wM false ca a2 ρ) H) (hD : va_D (fun q : Nat => s.heap.size ≤ q) (wX g ca a σ ++ wM false ca a2 ρ)) (hS : va_S (fun q : Nat => s.heap.size ≤ q) s.heap H locs) (hl : lv_has ls 4 [(0, .ref b), (1, .ref (a 0)), (2, .ref (a2 0)), (3, .int i)]) (hc1 : cells + 12 ≤ 600000) (hs1 : slots + (100) ≤ 7302250) (kk : ∀ (H : Heap) (locs : List Loc), va_P D vCl (wX g ca a σ' ++ wM false ca a2 ρ') H → va_D (fun q : Nat => s.heap.size ≤ q) (wX g ca a σ' ++ wM false ca a2 ρ') → va_S (fun q : Nat => s.heap.size ≤ q) s.heap H locs → W p l e room_1 s m #[Value.ref b] below meth c H locs (cells + 12) (slots + (100)) (lw_Z below #[Value.ref b] s) (F0 m 902 ls [])) : W p l e room_1 s m #[Value.ref b] below meth c H locs cells slots (lw_Z below #[Value.ref b] s) (F0 m 691 ls []) := by
  obtain ⟨hx, hb, hr, hml, hown, hts, hX, hbl, hlocks, hgv⟩ := id C0
  have hA : ∀ q : Nat, s.heap.size ≤ q → (fun q : Nat => s.heap.size ≤ q) q := fun _ h => h
  have hbA : ¬ (fun q : Nat => s.heap.size ≤ q) b := Nat.not_le.mpr hbl
  have hB : ∀ w ∈ BIG, w.before #[Value.ref b] s = true := fun w h => hts w (bg_out h)
  have hcl : cells + 12 ≤ room_1.cells := hc1
  have hsl : slots + (100) ≤ room_1.slots := hs1
  refine lv_aload_n hx hb d_law_691 rfl (lv_at hl 1 rfl) ?_
  refine lv_aload_n hx hb d_law_692 rfl (lv_at hl 0 rfl) ?_
  refine lv_iload_n hx hb d_law_693 rfl (lv_at hl 3 rfl) ?_
  refine lv_iconst (v := (1 : Int32)) hx hb d_law_694 (by decide) ?_
  refine lv_iadd hx hb d_law_695 ?_
  refine va_sld hx hb hX hbl hbA hS (hin 1 (by decide)) d_law_696 ?_
  refine lv_aload_n hx hb d_law_697 rfl (lv_at hl 0 rfl) ?_
  refine lv_iload_n hx hb d_law_698 rfl (lv_at hl 3 rfl) ?_
  refine lv_iconst (v := (2 : Int32)) hx hb d_law_699 (by decide) ?_
  refine lv_iadd hx hb d_law_700 ?_
  refine va_sld hx hb hX hbl hbA hS (hin 2 (by decide)) d_law_701 ?_
  refine lw_bool hx hb d_law_702 d_law_705 d_law_706 d_law_709 ?_
  refine go_VI (rest := []) ⟨hx, hb, hml, hown, hB⟩ nwX_ok (c_Q_order l D ca g a (wM false ca a2 ρ) N σ σ' (xs (i + (1 : Int32)).toNatClampNeg) (bz (xs (i + (2 : Int32)).toNatClampNeg)) r h1) (cwx_V hB m_534 kw_Q_order ⟨by decide, by decide⟩ rfl rfl) (va_recv hK hP (ci := 0) (q0 := 0) rfl rfl) hN hK hP hD hS hA rfl hl.1 rfl (Nat.le_of_ble_eq_true rfl) d_law_710 ⟨Nat.le_trans (Nat.add_le_add_left (by decide) _) hcl, Nat.le_trans (Nat.add_le_add_left (by decide) _) hsl⟩ (fun H locs hP hD hS => ?_)
  replace hP := vP_perm List.perm_append_comm hP
  replace hD := vD_perm List.perm_append_comm hD
  have hcl : cells + 0 + 0 ≤ room_1.cells := by show _ ≤ 600000; omega
  have hsl : slots + 0 + 0 ≤ room_1.slots := by show _ ≤ 7302250; omega
  refine lv_aload_n hx hb d_law_713 rfl (lv_at hl 2 rfl) ?_
  refine lv_aload_n hx hb d_law_714 rfl (lv_at hl 0 rfl) ?_
  refine lv_iload_n hx hb d_law_715 rfl (lv_at hl 3 rfl) ?_
  refine lv_iconst (v := (1 : Int32)) hx hb d_law_716 (by decide) ?_
  refine lv_iadd hx hb d_law_717 ?_
  refine va_sld hx hb hX hbl hbA hS (hin 1 (by decide)) d_law_718 ?_
  refine lv_aload_n hx hb d_law_719 rfl (lv_at hl 0 rfl) ?_
  refine lv_iload_n hx hb d_law_720 rfl (lv_at hl 3 rfl) ?_
  refine lv_iconst (v := (2 : Int32)) hx hb d_law_721 (by decide) ?_
  refine lv_iadd hx hb d_law_722 ?_
  refine va_sld hx hb hX hbl hbA hS (hin 2 (by decide)) d_law_723 ?_
  refine lw_bool hx hb d_law_724 d_law_727 d_law_728 d_law_731 ?_
  refine go_VI (rest := [.int r]) ⟨hx, hb, hml, hown, hB⟩ nwM_ok (c_M_order l D ca false a2 (wX g ca a σ') N ρ ρ' (xs (i + (1 : Int32)).toNatClampNeg) (bz (xs (i + (2 : Int32)).toNatClampNeg)) r h2) (cwx_V hB m_1105 kw_M_order ⟨by decide, by decide⟩ rfl rfl) (va_recv hK hP (ci := 1) (q0 := 0) rfl rfl) (fun _ h => absurd h List.not_mem_nil) hK hP hD hS hA rfl hl.1 rfl (Nat.le_of_ble_eq_true rfl) d_law_732 ⟨Nat.le_trans (Nat.add_le_add_left (by decide) _) hcl, Nat.le_trans (Nat.add_le_add_left (by decide) _) hsl⟩ (fun H locs hP hD hS => ?_)
  replace hP := vP_perm List.perm_append_comm hP
  replace hD := vD_perm List.perm_append_comm hD
  refine lv_icmp_eq (tgt := 902) hx hb d_law_735 (by decide) (fun _ => ?_) (fun hc => absurd rfl hc)
  refine W.widen (k := cells + 12) (n := slots + (100)) (by omega) (by omega) ?_
  exact kk H locs hP hD hS
set_option maxRecDepth 100000 in
set_option maxHeartbeats 4000000 in
theorem lc_Q_shape {p : Program} {e : Env} {s : State} {m : MethodId} {below : List Frame} {meth : Method} {c : Code} (l : Launch) {b L : Nat} {xs : Nat → Int32} (C0 : lw_At p s m meth c b L xs) (D : va_G) (ca : Nat → ClassId) (a a2 : Nat → Nat) (N : Nat) (hK : va_K D vCl (tyA ca) s) (hN : ∀ w ∈ nwX, va_Nw w s) (i : Int32) (hin : ∀ k : Nat, k ≤ 10 → vp_in (i + Int32.ofNat k) L) (g : Bool) (σ ρ σ' ρ' : St) (r : Int32) (h1 : f_Q_shape N σ (bz (xs (i + (1 : Int32)).toNatClampNeg)) (xs (i + (2 : Int32)).toNatClampNeg) (xs (i + (3 : Int32)).toNatClampNeg) = some (r, σ')) (h2 : f_M_shape N ρ (bz (xs (i + (1 : Int32)).toNatClampNeg)) (xs (i + (2 : Int32)).toNatClampNeg) (xs (i + (3 : Int32)).toNatClampNeg) = some (r, ρ')) {H : Heap} {locs : List Loc} {cells slots : Nat} {ls : Array Slot} (hP : va_P D vCl (wX g ca a σ ++ wM false ca a2 ρ) H) (hD : va_D (fun q : Nat => s.heap.size ≤ q) (wX g ca a σ ++ wM false ca a2 ρ)) (hS : va_S (fun q : Nat => s.heap.size ≤ q) s.heap H locs) (hl : lv_has ls 4 [(0, .ref b), (1, .ref (a 0)), (2, .ref (a2 0)), (3, .int i)]) (hc1 : cells + 12 ≤ 600000) (hs1 : slots + (100) ≤ 7302250) (kk : ∀ (H : Heap) (locs : List Loc), va_P D vCl (wX g ca a σ' ++ wM false ca a2 ρ') H → va_D (fun q : Nat => s.heap.size ≤ q) (wX g ca a σ' ++ wM false ca a2 ρ') → va_S (fun q : Nat => s.heap.size ≤ q) s.heap H locs → W p l e room_1 s m #[Value.ref b] below meth c H locs (cells + 12) (slots + (100)) (lw_Z below #[Value.ref b] s) (F0 m 902 ls [])) : W p l e room_1 s m #[Value.ref b] below meth c H locs cells slots (lw_Z below #[Value.ref b] s) (F0 m 740 ls []) := by
  obtain ⟨hx, hb, hr, hml, hown, hts, hX, hbl, hlocks, hgv⟩ := id C0
  have hA : ∀ q : Nat, s.heap.size ≤ q → (fun q : Nat => s.heap.size ≤ q) q := fun _ h => h
  have hbA : ¬ (fun q : Nat => s.heap.size ≤ q) b := Nat.not_le.mpr hbl
  have hB : ∀ w ∈ BIG, w.before #[Value.ref b] s = true := fun w h => hts w (bg_out h)
  have hcl : cells + 12 ≤ room_1.cells := hc1
  have hsl : slots + (100) ≤ room_1.slots := hs1
  refine lv_aload_n hx hb d_law_740 rfl (lv_at hl 1 rfl) ?_
  refine lv_aload_n hx hb d_law_741 rfl (lv_at hl 0 rfl) ?_
  refine lv_iload_n hx hb d_law_742 rfl (lv_at hl 3 rfl) ?_
  refine lv_iconst (v := (1 : Int32)) hx hb d_law_743 (by decide) ?_
  refine lv_iadd hx hb d_law_744 ?_
  refine va_sld hx hb hX hbl hbA hS (hin 1 (by decide)) d_law_745 ?_
  refine lw_bool hx hb d_law_746 d_law_749 d_law_750 d_law_753 ?_
  refine lv_aload_n hx hb d_law_754 rfl (lv_at hl 0 rfl) ?_
  refine lv_iload_n hx hb d_law_755 rfl (lv_at hl 3 rfl) ?_
  refine lv_iconst (v := (2 : Int32)) hx hb d_law_756 (by decide) ?_
  refine lv_iadd hx hb d_law_757 ?_
  refine va_sld hx hb hX hbl hbA hS (hin 2 (by decide)) d_law_758 ?_
  refine lv_aload_n hx hb d_law_759 rfl (lv_at hl 0 rfl) ?_
  refine lv_iload_n hx hb d_law_760 rfl (lv_at hl 3 rfl) ?_
  refine lv_iconst (v := (3 : Int32)) hx hb d_law_761 (by decide) ?_
  refine lv_iadd hx hb d_law_762 ?_
  refine va_sld hx hb hX hbl hbA hS (hin 3 (by decide)) d_law_763 ?_
  refine go_VI (rest := []) ⟨hx, hb, hml, hown, hB⟩ nwX_ok (c_Q_shape l D ca g a (wM false ca a2 ρ) N σ σ' (bz (xs (i + (1 : Int32)).toNatClampNeg)) (xs (i + (2 : Int32)).toNatClampNeg) (xs (i + (3 : Int32)).toNatClampNeg) r h1) (cwx_V hB m_542 kw_Q_shape ⟨by decide, by decide⟩ rfl rfl) (va_recv hK hP (ci := 0) (q0 := 0) rfl rfl) hN hK hP hD hS hA rfl hl.1 rfl (Nat.le_of_ble_eq_true rfl) d_law_764 ⟨Nat.le_trans (Nat.add_le_add_left (by decide) _) hcl, Nat.le_trans (Nat.add_le_add_left (by decide) _) hsl⟩ (fun H locs hP hD hS => ?_)
  replace hP := vP_perm List.perm_append_comm hP
  replace hD := vD_perm List.perm_append_comm hD
  have hcl : cells + 0 + 0 ≤ room_1.cells := by show _ ≤ 600000; omega
  have hsl : slots + 0 + 0 ≤ room_1.slots := by show _ ≤ 7302250; omega
  refine lv_aload_n hx hb d_law_767 rfl (lv_at hl 2 rfl) ?_
  refine lv_aload_n hx hb d_law_768 rfl (lv_at hl 0 rfl) ?_
  refine lv_iload_n hx hb d_law_769 rfl (lv_at hl 3 rfl) ?_
  refine lv_iconst (v := (1 : Int32)) hx hb d_law_770 (by decide) ?_
  refine lv_iadd hx hb d_law_771 ?_
  refine va_sld hx hb hX hbl hbA hS (hin 1 (by decide)) d_law_772 ?_
  refine lw_bool hx hb d_law_773 d_law_776 d_law_777 d_law_780 ?_
  refine lv_aload_n hx hb d_law_781 rfl (lv_at hl 0 rfl) ?_
  refine lv_iload_n hx hb d_law_782 rfl (lv_at hl 3 rfl) ?_
  refine lv_iconst (v := (2 : Int32)) hx hb d_law_783 (by decide) ?_
  refine lv_iadd hx hb d_law_784 ?_
  refine va_sld hx hb hX hbl hbA hS (hin 2 (by decide)) d_law_785 ?_
  refine lv_aload_n hx hb d_law_786 rfl (lv_at hl 0 rfl) ?_
  refine lv_iload_n hx hb d_law_787 rfl (lv_at hl 3 rfl) ?_
  refine lv_iconst (v := (3 : Int32)) hx hb d_law_788 (by decide) ?_
  refine lv_iadd hx hb d_law_789 ?_
  refine va_sld hx hb hX hbl hbA hS (hin 3 (by decide)) d_law_790 ?_
  refine go_VI (rest := [.int r]) ⟨hx, hb, hml, hown, hB⟩ nwM_ok (c_M_shape l D ca false a2 (wX g ca a σ') N ρ ρ' (bz (xs (i + (1 : Int32)).toNatClampNeg)) (xs (i + (2 : Int32)).toNatClampNeg) (xs (i + (3 : Int32)).toNatClampNeg) r h2) (cwx_V hB m_1109 kw_M_shape ⟨by decide, by decide⟩ rfl rfl) (va_recv hK hP (ci := 1) (q0 := 0) rfl rfl) (fun _ h => absurd h List.not_mem_nil) hK hP hD hS hA rfl hl.1 rfl (Nat.le_of_ble_eq_true rfl) d_law_791 ⟨Nat.le_trans (Nat.add_le_add_left (by decide) _) hcl, Nat.le_trans (Nat.add_le_add_left (by decide) _) hsl⟩ (fun H locs hP hD hS => ?_)
  replace hP := vP_perm List.perm_append_comm hP
  replace hD := vD_perm List.perm_append_comm hD
  refine lv_icmp_eq (tgt := 902) hx hb d_law_794 (by decide) (fun _ => ?_) (fun hc => absurd rfl hc)
  refine W.widen (k := cells + 12) (n := slots + (100)) (by omega) (by omega) ?_
  exact kk H locs hP hD hS
set_option maxRecDepth 100000 in
set_option maxHeartbeats 4000000 in
theorem lc_Q_run {p : Program} {e : Env} {s : State} {m : MethodId} {below : List Frame} {meth : Method} {c : Code} (l : Launch) {b L : Nat} {xs : Nat → Int32} (C0 : lw_At p s m meth c b L xs) (D : va_G) (ca : Nat → ClassId) (a a2 : Nat → Nat) (N : Nat) (hK : va_K D vCl (tyA ca) s) (hN : ∀ w ∈ nwX, va_Nw w s) (i : Int32) (hin : ∀ k : Nat, k ≤ 10 → vp_in (i + Int32.ofNat k) L) (g : Bool) (σ ρ σ' ρ' : St) (g' : Bool) (r : Int32) (h1 : f_Q_run N g σ = some (r, g', σ')) (h2 : f_M_run N ρ = some (r, ρ')) {H : Heap} {locs : List Loc} {cells slots : Nat} {ls : Array Slot} (hP : va_P D vCl (wX g ca a σ ++ wM false ca a2 ρ) H) (hD : va_D (fun q : Nat => s.heap.size ≤ q) (wX g ca a σ ++ wM false ca a2 ρ)) (hS : va_S (fun q : Nat => s.heap.size ≤ q) s.heap H locs) (hl : lv_has ls 4 [(0, .ref b), (1, .ref (a 0)), (2, .ref (a2 0)), (3, .int i)]) (hc1 : cells + 12 ≤ 600000) (dl : Nat) (hdl : dl = if g' = g then 0 else 17422) (hs1 : slots + (100 + dl) ≤ 7302250) (kk : ∀ (u : Nat → Nat) (H : Heap) (locs : List Loc), va_P D vCl (wX g' ca (xa a u) σ' ++ wM false ca a2 ρ') H → va_D (fun q : Nat => s.heap.size ≤ q) (wX g' ca (xa a u) σ' ++ wM false ca a2 ρ') → va_S (fun q : Nat => s.heap.size ≤ q) s.heap H locs → W p l e room_1 s m #[Value.ref b] below meth c H locs (cells + 12) (slots + (100 + dl)) (lw_Z below #[Value.ref b] s) (F0 m 902 ls [])) : W p l e room_1 s m #[Value.ref b] below meth c H locs cells slots (lw_Z below #[Value.ref b] s) (F0 m 799 ls []) := by
  obtain ⟨hx, hb, hr, hml, hown, hts, hX, hbl, hlocks, hgv⟩ := id C0
  have hA : ∀ q : Nat, s.heap.size ≤ q → (fun q : Nat => s.heap.size ≤ q) q := fun _ h => h
  have hbA : ¬ (fun q : Nat => s.heap.size ≤ q) b := Nat.not_le.mpr hbl
  have hB : ∀ w ∈ BIG, w.before #[Value.ref b] s = true := fun w h => hts w (bg_out h)
  have hcl : cells + 12 ≤ room_1.cells := hc1
  have hsl : slots + (100 + dl) ≤ room_1.slots := hs1
  by_cases hgg : g' = g
  · have e0 : dl = 0 := by rw [hdl, if_pos hgg]
    clear hdl
    subst e0
    have hsl : slots + (100 + 0) ≤ room_1.slots := hs1
    refine lv_aload_n hx hb d_law_799 rfl (lv_at hl 1 rfl) ?_
    refine go_VG (rest := []) ⟨hx, hb, hml, hown, hB⟩ nwX_ok (c_Q_run_s l D ca g a (wM false ca a2 ρ) N σ σ' g' r hgg h1) (cwx_V hB m_547 kw_Q_run ⟨by decide, by decide⟩ rfl rfl) (va_recv hK hP (ci := 0) (q0 := 0) rfl rfl) hN hK hP hD hS hA rfl hl.1 rfl (Nat.le_of_ble_eq_true rfl) d_law_800 ⟨Nat.le_trans (Nat.add_le_add_left (by decide) _) hcl, Nat.le_trans (Nat.add_le_add_left (by decide) _) hsl⟩ (fun u H locs hP hD hS => ?_)
    replace hP := vP_perm List.perm_append_comm hP
    replace hD := vD_perm List.perm_append_comm hD
    have hcl : cells + 0 + 0 ≤ room_1.cells := by show _ ≤ 600000; omega
    have hsl : slots + 0 + 0 ≤ room_1.slots := by show _ ≤ 7302250; omega
    refine lv_aload_n hx hb d_law_803 rfl (lv_at hl 2 rfl) ?_
    refine go_VI (rest := [.int r]) ⟨hx, hb, hml, hown, hB⟩ nwM_ok (c_M_run l D ca false a2 (wX g' ca (xa a u) σ') N ρ ρ' r h2) (cwx_V hB m_1114 kw_M_run ⟨by decide, by decide⟩ rfl rfl) (va_recv hK hP (ci := 1) (q0 := 0) rfl rfl) (fun _ h => absurd h List.not_mem_nil) hK hP hD hS hA rfl hl.1 rfl (Nat.le_of_ble_eq_true rfl) d_law_804 ⟨Nat.le_trans (Nat.add_le_add_left (by decide) _) hcl, Nat.le_trans (Nat.add_le_add_left (by decide) _) hsl⟩ (fun H locs hP hD hS => ?_)
    replace hP := vP_perm List.perm_append_comm hP
    replace hD := vD_perm List.perm_append_comm hD
    refine lv_icmp_eq (tgt := 902) hx hb d_law_807 (by decide) (fun _ => ?_) (fun hc => absurd rfl hc)
    refine W.widen (k := cells + 12) (n := slots + (100 + 0)) (by omega) (by omega) ?_
    exact kk u H locs hP hD hS
  · have e0 : dl = 17422 := by rw [hdl, if_neg hgg]
    clear hdl
    subst e0
    have hsl : slots + (100 + 17422) ≤ room_1.slots := hs1
    refine lv_aload_n hx hb d_law_799 rfl (lv_at hl 1 rfl) ?_
    refine go_VG (rest := []) ⟨hx, hb, hml, hown, hB⟩ nwX_ok (c_Q_run l D ca g a (wM false ca a2 ρ) N σ σ' g' r h1) (cwx_V hB m_547 kw_Q_run ⟨by decide, by decide⟩ rfl rfl) (va_recv hK hP (ci := 0) (q0 := 0) rfl rfl) hN hK hP hD hS hA rfl hl.1 rfl (Nat.le_of_ble_eq_true rfl) d_law_800 ⟨Nat.le_trans (Nat.add_le_add_left (by decide) _) hcl, Nat.le_trans (Nat.add_le_add_left (by decide) _) hsl⟩ (fun u H locs hP hD hS => ?_)
    replace hP := vP_perm List.perm_append_comm hP
    replace hD := vD_perm List.perm_append_comm hD
    have hcl : cells + 11 + 0 ≤ room_1.cells := by show _ ≤ 600000; omega
    have hsl : slots + 17422 + 0 ≤ room_1.slots := by show _ ≤ 7302250; omega
    refine lv_aload_n hx hb d_law_803 rfl (lv_at hl 2 rfl) ?_
    refine go_VI (rest := [.int r]) ⟨hx, hb, hml, hown, hB⟩ nwM_ok (c_M_run l D ca false a2 (wX g' ca (xa a u) σ') N ρ ρ' r h2) (cwx_V hB m_1114 kw_M_run ⟨by decide, by decide⟩ rfl rfl) (va_recv hK hP (ci := 1) (q0 := 0) rfl rfl) (fun _ h => absurd h List.not_mem_nil) hK hP hD hS hA rfl hl.1 rfl (Nat.le_of_ble_eq_true rfl) d_law_804 ⟨Nat.le_trans (Nat.add_le_add_left (by decide) _) hcl, Nat.le_trans (Nat.add_le_add_left (by decide) _) hsl⟩ (fun H locs hP hD hS => ?_)
    replace hP := vP_perm List.perm_append_comm hP
    replace hD := vD_perm List.perm_append_comm hD
    refine lv_icmp_eq (tgt := 902) hx hb d_law_807 (by decide) (fun _ => ?_) (fun hc => absurd rfl hc)
    refine W.widen (k := cells + 12) (n := slots + (100 + 17422)) (by omega) (by omega) ?_
    exact kk u H locs hP hD hS
set_option maxRecDepth 100000 in
set_option maxHeartbeats 4000000 in
theorem lc_Q_cell {p : Program} {e : Env} {s : State} {m : MethodId} {below : List Frame} {meth : Method} {c : Code} (l : Launch) {b L : Nat} {xs : Nat → Int32} (C0 : lw_At p s m meth c b L xs) (D : va_G) (ca : Nat → ClassId) (a a2 : Nat → Nat) (N : Nat) (hK : va_K D vCl (tyA ca) s) (hN : ∀ w ∈ nwX, va_Nw w s) (i : Int32) (hin : ∀ k : Nat, k ≤ 10 → vp_in (i + Int32.ofNat k) L) (g : Bool) (σ ρ σ' ρ' : St) (r : Int64) (h1 : f_Q_cell N σ (xs (i + (1 : Int32)).toNatClampNeg) (xs (i + (2 : Int32)).toNatClampNeg) = some (r, σ')) (h2 : f_M_cell N ρ (xs (i + (1 : Int32)).toNatClampNeg) (xs (i + (2 : Int32)).toNatClampNeg) = some (r, ρ')) {H : Heap} {locs : List Loc} {cells slots : Nat} {ls : Array Slot} (hP : va_P D vCl (wX g ca a σ ++ wM false ca a2 ρ) H) (hD : va_D (fun q : Nat => s.heap.size ≤ q) (wX g ca a σ ++ wM false ca a2 ρ)) (hS : va_S (fun q : Nat => s.heap.size ≤ q) s.heap H locs) (hl : lv_has ls 4 [(0, .ref b), (1, .ref (a 0)), (2, .ref (a2 0)), (3, .int i)]) (hc1 : cells + 12 ≤ 600000) (hs1 : slots + (100) ≤ 7302250) (kk : ∀ (H : Heap) (locs : List Loc), va_P D vCl (wX g ca a σ' ++ wM false ca a2 ρ') H → va_D (fun q : Nat => s.heap.size ≤ q) (wX g ca a σ' ++ wM false ca a2 ρ') → va_S (fun q : Nat => s.heap.size ≤ q) s.heap H locs → W p l e room_1 s m #[Value.ref b] below meth c H locs (cells + 12) (slots + (100)) (lw_Z below #[Value.ref b] s) (F0 m 902 ls [])) : W p l e room_1 s m #[Value.ref b] below meth c H locs cells slots (lw_Z below #[Value.ref b] s) (F0 m 812 ls []) := by
  obtain ⟨hx, hb, hr, hml, hown, hts, hX, hbl, hlocks, hgv⟩ := id C0
  have hA : ∀ q : Nat, s.heap.size ≤ q → (fun q : Nat => s.heap.size ≤ q) q := fun _ h => h
  have hbA : ¬ (fun q : Nat => s.heap.size ≤ q) b := Nat.not_le.mpr hbl
  have hB : ∀ w ∈ BIG, w.before #[Value.ref b] s = true := fun w h => hts w (bg_out h)
  have hcl : cells + 12 ≤ room_1.cells := hc1
  have hsl : slots + (100) ≤ room_1.slots := hs1
  refine lv_aload_n hx hb d_law_812 rfl (lv_at hl 1 rfl) ?_
  refine lv_aload_n hx hb d_law_813 rfl (lv_at hl 0 rfl) ?_
  refine lv_iload_n hx hb d_law_814 rfl (lv_at hl 3 rfl) ?_
  refine lv_iconst (v := (1 : Int32)) hx hb d_law_815 (by decide) ?_
  refine lv_iadd hx hb d_law_816 ?_
  refine va_sld hx hb hX hbl hbA hS (hin 1 (by decide)) d_law_817 ?_
  refine lv_aload_n hx hb d_law_818 rfl (lv_at hl 0 rfl) ?_
  refine lv_iload_n hx hb d_law_819 rfl (lv_at hl 3 rfl) ?_
  refine lv_iconst (v := (2 : Int32)) hx hb d_law_820 (by decide) ?_
  refine lv_iadd hx hb d_law_821 ?_
  refine va_sld hx hb hX hbl hbA hS (hin 2 (by decide)) d_law_822 ?_
  refine go_VL (rest := []) ⟨hx, hb, hml, hown, hB⟩ nwX_ok (c_Q_cell l D ca g a (wM false ca a2 ρ) N σ σ' (xs (i + (1 : Int32)).toNatClampNeg) (xs (i + (2 : Int32)).toNatClampNeg) r h1) (cwx_V hB m_831 kw_Q_cell ⟨by decide, by decide⟩ rfl rfl) (va_recv hK hP (ci := 0) (q0 := 0) rfl rfl) hN hK hP hD hS hA rfl hl.1 rfl (Nat.le_of_ble_eq_true rfl) d_law_823 ⟨Nat.le_trans (Nat.add_le_add_left (by decide) _) hcl, Nat.le_trans (Nat.add_le_add_left (by decide) _) hsl⟩ (fun H locs hP hD hS => ?_)
  replace hP := vP_perm List.perm_append_comm hP
  replace hD := vD_perm List.perm_append_comm hD
  have hcl : cells + 0 + 0 ≤ room_1.cells := by show _ ≤ 600000; omega
  have hsl : slots + 0 + 0 ≤ room_1.slots := by show _ ≤ 7302250; omega
  refine lv_aload_n hx hb d_law_826 rfl (lv_at hl 2 rfl) ?_
  refine lv_aload_n hx hb d_law_827 rfl (lv_at hl 0 rfl) ?_
  refine lv_iload_n hx hb d_law_828 rfl (lv_at hl 3 rfl) ?_
  refine lv_iconst (v := (1 : Int32)) hx hb d_law_829 (by decide) ?_
  refine lv_iadd hx hb d_law_830 ?_
  refine va_sld hx hb hX hbl hbA hS (hin 1 (by decide)) d_law_831 ?_
  refine lv_aload_n hx hb d_law_832 rfl (lv_at hl 0 rfl) ?_
  refine lv_iload_n hx hb d_law_833 rfl (lv_at hl 3 rfl) ?_
  refine lv_iconst (v := (2 : Int32)) hx hb d_law_834 (by decide) ?_
  refine lv_iadd hx hb d_law_835 ?_
  refine va_sld hx hb hX hbl hbA hS (hin 2 (by decide)) d_law_836 ?_
  refine go_VL (rest := [.long r]) ⟨hx, hb, hml, hown, hB⟩ nwM_ok (c_M_cell l D ca false a2 (wX g ca a σ') N ρ ρ' (xs (i + (1 : Int32)).toNatClampNeg) (xs (i + (2 : Int32)).toNatClampNeg) r h2) (cwx_V hB m_1257 kw_M_cell ⟨by decide, by decide⟩ rfl rfl) (va_recv hK hP (ci := 1) (q0 := 0) rfl rfl) (fun _ h => absurd h List.not_mem_nil) hK hP hD hS hA rfl hl.1 rfl (Nat.le_of_ble_eq_true rfl) d_law_837 ⟨Nat.le_trans (Nat.add_le_add_left (by decide) _) hcl, Nat.le_trans (Nat.add_le_add_left (by decide) _) hsl⟩ (fun H locs hP hD hS => ?_)
  replace hP := vP_perm List.perm_append_comm hP
  replace hD := vD_perm List.perm_append_comm hD
  refine W.lcmp hx hb d_law_840 ?_
  refine lv_if_eq (tgt := 902) hx hb d_law_841 (by decide) (fun _ => ?_) (fun hc => absurd (by simp [lg_cmp]) hc)
  refine W.widen (k := cells + 12) (n := slots + (100)) (by omega) (by omega) ?_
  exact kk H locs hP hD hS
set_option maxRecDepth 100000 in
set_option maxHeartbeats 4000000 in
theorem lc_Q_isNull {p : Program} {e : Env} {s : State} {m : MethodId} {below : List Frame} {meth : Method} {c : Code} (l : Launch) {b L : Nat} {xs : Nat → Int32} (C0 : lw_At p s m meth c b L xs) (D : va_G) (ca : Nat → ClassId) (a a2 : Nat → Nat) (N : Nat) (hK : va_K D vCl (tyA ca) s) (hN : ∀ w ∈ nwX, va_Nw w s) (i : Int32) (hin : ∀ k : Nat, k ≤ 10 → vp_in (i + Int32.ofNat k) L) (g : Bool) (σ ρ σ' ρ' : St) (r : Int32) (h1 : f_Q_isNull N σ (xs (i + (1 : Int32)).toNatClampNeg) (xs (i + (2 : Int32)).toNatClampNeg) = some (r, σ')) (h2 : f_M_isNull N ρ (xs (i + (1 : Int32)).toNatClampNeg) (xs (i + (2 : Int32)).toNatClampNeg) = some (r, ρ')) {H : Heap} {locs : List Loc} {cells slots : Nat} {ls : Array Slot} (hP : va_P D vCl (wX g ca a σ ++ wM false ca a2 ρ) H) (hD : va_D (fun q : Nat => s.heap.size ≤ q) (wX g ca a σ ++ wM false ca a2 ρ)) (hS : va_S (fun q : Nat => s.heap.size ≤ q) s.heap H locs) (hl : lv_has ls 4 [(0, .ref b), (1, .ref (a 0)), (2, .ref (a2 0)), (3, .int i)]) (hc1 : cells + 12 ≤ 600000) (hs1 : slots + (100) ≤ 7302250) (kk : ∀ (H : Heap) (locs : List Loc), va_P D vCl (wX g ca a σ' ++ wM false ca a2 ρ') H → va_D (fun q : Nat => s.heap.size ≤ q) (wX g ca a σ' ++ wM false ca a2 ρ') → va_S (fun q : Nat => s.heap.size ≤ q) s.heap H locs → W p l e room_1 s m #[Value.ref b] below meth c H locs (cells + 12) (slots + (100)) (lw_Z below #[Value.ref b] s) (F0 m 902 ls [])) : W p l e room_1 s m #[Value.ref b] below meth c H locs cells slots (lw_Z below #[Value.ref b] s) (F0 m 846 ls []) := by
  obtain ⟨hx, hb, hr, hml, hown, hts, hX, hbl, hlocks, hgv⟩ := id C0
  have hA : ∀ q : Nat, s.heap.size ≤ q → (fun q : Nat => s.heap.size ≤ q) q := fun _ h => h
  have hbA : ¬ (fun q : Nat => s.heap.size ≤ q) b := Nat.not_le.mpr hbl
  have hB : ∀ w ∈ BIG, w.before #[Value.ref b] s = true := fun w h => hts w (bg_out h)
  have hcl : cells + 12 ≤ room_1.cells := hc1
  have hsl : slots + (100) ≤ room_1.slots := hs1
  refine lv_aload_n hx hb d_law_846 rfl (lv_at hl 1 rfl) ?_
  refine lv_aload_n hx hb d_law_847 rfl (lv_at hl 0 rfl) ?_
  refine lv_iload_n hx hb d_law_848 rfl (lv_at hl 3 rfl) ?_
  refine lv_iconst (v := (1 : Int32)) hx hb d_law_849 (by decide) ?_
  refine lv_iadd hx hb d_law_850 ?_
  refine va_sld hx hb hX hbl hbA hS (hin 1 (by decide)) d_law_851 ?_
  refine lv_aload_n hx hb d_law_852 rfl (lv_at hl 0 rfl) ?_
  refine lv_iload_n hx hb d_law_853 rfl (lv_at hl 3 rfl) ?_
  refine lv_iconst (v := (2 : Int32)) hx hb d_law_854 (by decide) ?_
  refine lv_iadd hx hb d_law_855 ?_
  refine va_sld hx hb hX hbl hbA hS (hin 2 (by decide)) d_law_856 ?_
  refine go_VI (rest := []) ⟨hx, hb, hml, hown, hB⟩ nwX_ok (c_Q_isNull l D ca g a (wM false ca a2 ρ) N σ σ' (xs (i + (1 : Int32)).toNatClampNeg) (xs (i + (2 : Int32)).toNatClampNeg) r h1) (cwx_V hB m_843 kw_Q_isNull ⟨by decide, by decide⟩ rfl rfl) (va_recv hK hP (ci := 0) (q0 := 0) rfl rfl) hN hK hP hD hS hA rfl hl.1 rfl (Nat.le_of_ble_eq_true rfl) d_law_857 ⟨Nat.le_trans (Nat.add_le_add_left (by decide) _) hcl, Nat.le_trans (Nat.add_le_add_left (by decide) _) hsl⟩ (fun H locs hP hD hS => ?_)
  replace hP := vP_perm List.perm_append_comm hP
  replace hD := vD_perm List.perm_append_comm hD
  have hcl : cells + 0 + 0 ≤ room_1.cells := by show _ ≤ 600000; omega
  have hsl : slots + 0 + 0 ≤ room_1.slots := by show _ ≤ 7302250; omega
  refine lv_aload_n hx hb d_law_860 rfl (lv_at hl 2 rfl) ?_
  refine lv_aload_n hx hb d_law_861 rfl (lv_at hl 0 rfl) ?_
  refine lv_iload_n hx hb d_law_862 rfl (lv_at hl 3 rfl) ?_
  refine lv_iconst (v := (1 : Int32)) hx hb d_law_863 (by decide) ?_
  refine lv_iadd hx hb d_law_864 ?_
  refine va_sld hx hb hX hbl hbA hS (hin 1 (by decide)) d_law_865 ?_
  refine lv_aload_n hx hb d_law_866 rfl (lv_at hl 0 rfl) ?_
  refine lv_iload_n hx hb d_law_867 rfl (lv_at hl 3 rfl) ?_
  refine lv_iconst (v := (2 : Int32)) hx hb d_law_868 (by decide) ?_
  refine lv_iadd hx hb d_law_869 ?_
  refine va_sld hx hb hX hbl hbA hS (hin 2 (by decide)) d_law_870 ?_
  refine go_VI (rest := [.int r]) ⟨hx, hb, hml, hown, hB⟩ nwM_ok (c_M_isNull l D ca false a2 (wX g ca a σ') N ρ ρ' (xs (i + (1 : Int32)).toNatClampNeg) (xs (i + (2 : Int32)).toNatClampNeg) r h2) (cwx_V hB m_1265 kw_M_isNull ⟨by decide, by decide⟩ rfl rfl) (va_recv hK hP (ci := 1) (q0 := 0) rfl rfl) (fun _ h => absurd h List.not_mem_nil) hK hP hD hS hA rfl hl.1 rfl (Nat.le_of_ble_eq_true rfl) d_law_871 ⟨Nat.le_trans (Nat.add_le_add_left (by decide) _) hcl, Nat.le_trans (Nat.add_le_add_left (by decide) _) hsl⟩ (fun H locs hP hD hS => ?_)
  replace hP := vP_perm List.perm_append_comm hP
  replace hD := vD_perm List.perm_append_comm hD
  refine lv_icmp_eq (tgt := 902) hx hb d_law_874 (by decide) (fun _ => ?_) (fun hc => absurd rfl hc)
  refine W.widen (k := cells + 12) (n := slots + (100)) (by omega) (by omega) ?_
  exact kk H locs hP hD hS
set_option maxRecDepth 100000 in
set_option maxHeartbeats 4000000 in
theorem lc_Q_answer {p : Program} {e : Env} {s : State} {m : MethodId} {below : List Frame} {meth : Method} {c : Code} (l : Launch) {b L : Nat} {xs : Nat → Int32} (C0 : lw_At p s m meth c b L xs) (D : va_G) (ca : Nat → ClassId) (a a2 : Nat → Nat) (N : Nat) (hK : va_K D vCl (tyA ca) s) (hN : ∀ w ∈ nwX, va_Nw w s) (i : Int32) (hin : ∀ k : Nat, k ≤ 10 → vp_in (i + Int32.ofNat k) L) (g : Bool) (σ ρ σ' ρ' : St) (r : Int32) (h1 : f_Q_answer N σ (xs (i + (1 : Int32)).toNatClampNeg) = some (r, σ')) (h2 : f_M_answer N ρ (xs (i + (1 : Int32)).toNatClampNeg) = some (r, ρ')) {H : Heap} {locs : List Loc} {cells slots : Nat} {ls : Array Slot} (hP : va_P D vCl (wX g ca a σ ++ wM false ca a2 ρ) H) (hD : va_D (fun q : Nat => s.heap.size ≤ q) (wX g ca a σ ++ wM false ca a2 ρ)) (hS : va_S (fun q : Nat => s.heap.size ≤ q) s.heap H locs) (hl : lv_has ls 4 [(0, .ref b), (1, .ref (a 0)), (2, .ref (a2 0)), (3, .int i)]) (hc1 : cells + 12 ≤ 600000) (hs1 : slots + (100) ≤ 7302250) (kk : ∀ (H : Heap) (locs : List Loc), va_P D vCl (wX g ca a σ' ++ wM false ca a2 ρ') H → va_D (fun q : Nat => s.heap.size ≤ q) (wX g ca a σ' ++ wM false ca a2 ρ') → va_S (fun q : Nat => s.heap.size ≤ q) s.heap H locs → W p l e room_1 s m #[Value.ref b] below meth c H locs (cells + 12) (slots + (100)) (lw_Z below #[Value.ref b] s) (F0 m 902 ls [])) : W p l e room_1 s m #[Value.ref b] below meth c H locs cells slots (lw_Z below #[Value.ref b] s) (F0 m 879 ls []) := by
  obtain ⟨hx, hb, hr, hml, hown, hts, hX, hbl, hlocks, hgv⟩ := id C0
  have hA : ∀ q : Nat, s.heap.size ≤ q → (fun q : Nat => s.heap.size ≤ q) q := fun _ h => h
  have hbA : ¬ (fun q : Nat => s.heap.size ≤ q) b := Nat.not_le.mpr hbl
  have hB : ∀ w ∈ BIG, w.before #[Value.ref b] s = true := fun w h => hts w (bg_out h)
  have hcl : cells + 12 ≤ room_1.cells := hc1
  have hsl : slots + (100) ≤ room_1.slots := hs1
  refine lv_aload_n hx hb d_law_879 rfl (lv_at hl 1 rfl) ?_
  refine lv_aload_n hx hb d_law_880 rfl (lv_at hl 0 rfl) ?_
  refine lv_iload_n hx hb d_law_881 rfl (lv_at hl 3 rfl) ?_
  refine lv_iconst (v := (1 : Int32)) hx hb d_law_882 (by decide) ?_
  refine lv_iadd hx hb d_law_883 ?_
  refine va_sld hx hb hX hbl hbA hS (hin 1 (by decide)) d_law_884 ?_
  refine go_VI (rest := []) ⟨hx, hb, hml, hown, hB⟩ nwX_ok (c_Q_answer l D ca g a (wM false ca a2 ρ) N σ σ' (xs (i + (1 : Int32)).toNatClampNeg) r h1) (cwx_V hB m_851 kw_Q_answer ⟨by decide, by decide⟩ rfl rfl) (va_recv hK hP (ci := 0) (q0 := 0) rfl rfl) hN hK hP hD hS hA rfl hl.1 rfl (Nat.le_of_ble_eq_true rfl) d_law_885 ⟨Nat.le_trans (Nat.add_le_add_left (by decide) _) hcl, Nat.le_trans (Nat.add_le_add_left (by decide) _) hsl⟩ (fun H locs hP hD hS => ?_)
  replace hP := vP_perm List.perm_append_comm hP
  replace hD := vD_perm List.perm_append_comm hD
  have hcl : cells + 0 + 0 ≤ room_1.cells := by show _ ≤ 600000; omega
  have hsl : slots + 0 + 0 ≤ room_1.slots := by show _ ≤ 7302250; omega
  refine lv_aload_n hx hb d_law_888 rfl (lv_at hl 2 rfl) ?_
  refine lv_aload_n hx hb d_law_889 rfl (lv_at hl 0 rfl) ?_
  refine lv_iload_n hx hb d_law_890 rfl (lv_at hl 3 rfl) ?_
  refine lv_iconst (v := (1 : Int32)) hx hb d_law_891 (by decide) ?_
  refine lv_iadd hx hb d_law_892 ?_
  refine va_sld hx hb hX hbl hbA hS (hin 1 (by decide)) d_law_893 ?_
  refine go_VI (rest := [.int r]) ⟨hx, hb, hml, hown, hB⟩ nwM_ok (c_M_answer l D ca false a2 (wX g ca a σ') N ρ ρ' (xs (i + (1 : Int32)).toNatClampNeg) r h2) (cwx_V hB m_1269 kw_M_answer ⟨by decide, by decide⟩ rfl rfl) (va_recv hK hP (ci := 1) (q0 := 0) rfl rfl) (fun _ h => absurd h List.not_mem_nil) hK hP hD hS hA rfl hl.1 rfl (Nat.le_of_ble_eq_true rfl) d_law_894 ⟨Nat.le_trans (Nat.add_le_add_left (by decide) _) hcl, Nat.le_trans (Nat.add_le_add_left (by decide) _) hsl⟩ (fun H locs hP hD hS => ?_)
  replace hP := vP_perm List.perm_append_comm hP
  replace hD := vD_perm List.perm_append_comm hD
  refine lv_icmp_eq (tgt := 902) hx hb d_law_897 (by decide) (fun _ => ?_) (fun hc => absurd rfl hc)
  refine W.widen (k := cells + 12) (n := slots + (100)) (by omega) (by omega) ?_
  exact kk H locs hP hD hS
