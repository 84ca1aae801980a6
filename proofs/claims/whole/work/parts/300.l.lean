/-! THE CLAIM OUT OF ONE WALK OF THE LAW'S BODY. Your part is whole_start (and what it stands on); all else here is the same for every law, but numbers. -/
def R_law : String := "SoupCargoLaw"
def lw_P (b : Addr) (xs : List Int32) (args : Array Value) (s : State) : Prop := args = #[.ref b] ∧ s.IntsAt b xs ∧ xs.length ≤ 3072 ∧ (Jvm.Cond.and given_1 narrow_1).before args s = true
def lw_Q (_ : Array Value) (s : State) (o : Outcome) (t : State) : Prop := o = .returned (some (.int 1)) ∧ Framed s o t [] 600000 7302250
def lw_Z (below : List Frame) (a : Array Value) (s : State) : State → Prop := fun t => ∃ o, t.status = .running ∧ Ended t below o ∧ lw_Q a s o t
/-- the law's own end, with 1 on the stack, nothing written that was there before, its room as the claim has it -/
theorem lw_ret {p : Program} {l : Launch} {e : Env} {s : State} {m : MethodId} {below : List Frame} {meth : Method} {c : Code} {b : Nat} (hx : p.tables.exec = Jvm.exec) (hb : c.code = code) (hr : meth.sig.returnType = ret) (hlocks : meth.locks = false) {pc : Nat} {H : Heap} {ls : Array Slot} (hdg : decode code pc = .ok (.ireturn, 1)) : W p l e room_1 s m #[Value.ref b] below meth c H [] 600000 7302250 (lw_Z below #[Value.ref b] s) (F0 m pc ls [.int 1]) := by
  intro T hT X
  obtain ⟨fs, hret, hrun, hended, hW, hframe⟩ := X.leave (v := some (.int 1)) (hlocks := hlocks) (fun h => by rw [hr] at h; cases h)
  have hmeth' : T.vm.method? m = some meth := X.method'
  refine ⟨T.setFrames fs, ?_, .returned (some (.int 1)), hrun, hended, rfl, ⟨_, rfl⟩, hW, hframe⟩
  jvm_step X.here [X.here.top, hx, hb, hdg, hmeth', hr, ret, narrow_b1]
  (try refine ⟨rfl, ?_⟩); (try refine ⟨rfl, ?_⟩)
  first | (intro acts; rw [hret _ acts rfl rfl rfl]) | rw [hret _ _ rfl rfl rfl]
  exact Steps.refl _
/-- what holds at the law's entry: the machine, the code, the tables' words (any of lw_tbl by 'hts w (by decide +kernel)'), the script of L ints xs at the cell b, what the Statement gives of the start (any of its parts by flat_of_before) -/
def lw_At (p : Program) (s : State) (m : MethodId) (meth : Method) (c : Code) (b L : Nat) (xs : Nat → Int32) : Prop :=
  p.tables.exec = Jvm.exec ∧ c.code = code ∧ meth.sig.returnType = ret ∧ c.maxLocals = 4 ∧ s.vm.findClass R_law = some m.cls ∧ (∀ w ∈ lw_tbl, w.before #[Value.ref b] s = true) ∧ va_X b L xs s s.heap ∧ b < s.heap.size ∧ meth.locks = false ∧ (Jvm.Cond.and given_1 narrow_1).before #[Value.ref b] s = true
/-! the law: both worlds, kept apart -/
def mkE (D : va_G) (cI cZ : ClassId) (a kK kV : Nat → Nat) : Ev := (D, (cI, cZ), a, kK, kV)
def LC (E1 E2 : Ev) (p : Program) (s : State) (m : MethodId) (c : Code) (b L : Nat) (xs : Nat → Int32) : Prop :=
  CallFix p m c code 4 s #[Value.ref b] gT RL ∧ va_X b L xs s s.heap ∧ b < s.heap.size ∧ (va_K (eD E1) vwCl (eT E1) s ∧ va_K (eD E2) vwCl (eT E2) s) ∧ XX true E1 (fun q => s.heap.size ≤ q) s ∧ (jW true E1 ∧ jW false E2) ∧ (∀ i j, i < nP true → j < nP false → ea E1 i ≠ ea E2 j) ∧ (∀ i, i < nP true → s.heap.size ≤ ea E1 i) ∧ (∀ i, i < nP false → s.heap.size ≤ ea E2 i)
section WR2
variable {z zo : Bool} {E E' : Ev} {own : String} {cc : ByteArray} {nL : Nat} {p : Program} {l : Launch} {e : Env} {R : Room} {s : State} {m : MethodId} {args : Array Value} {below : List Frame} {meth : Method} {c : Code} {H : Heap} {locs : List Loc} {Q : State → Prop} {pc : Nat} {ls : Array Slot} {rest : List Value} {σ σ' τ : St} {cells slots : Nat}
variable {y : MethodName} {bytes : ByteArray} {maxL n index : Nat} {rt : Option FieldType} {rm : Room} {As st0 : List Value} {r : Int32} {Cn : String}
theorem w_call {ci N : Nat} {fl : (Nat → Int32) → List Value} {T : u_T} (S : CallFix p m c cc nL s args gT own) (hK : va_K (eD E) vwCl (eT E) s) (hX : XX z E (fun q => s.heap.size ≤ q) s) (hdis : ∀ i j, i < nP z → j < nP zo → ea E i ≠ ea E' j) (hin : ∀ i, i < nP z → s.heap.size ≤ ea E i) (hM : Met l y (Cond.code y bytes maxL rt :: gT) rm (va_Pc (.ref (ea E 0) :: As) (preW z E σ H.size)) (QI z E r σ' H.size) 0 0 (aW z E H.size)) (ho : isO z E 0 ci fl) (hc : vwCl[ci]? = some (Cn, T, N)) (hg : GoodIn gT (wsV own index Cn y (Cond.code y bytes maxL rt :: gT))) (hd : y.cls = Cn ∧ y.cls ≠ "java/lang/invoke/MethodHandle" ∧ y.cls ≠ "java/lang/invoke/VarHandle" ∧ (parseMethodDescriptor y.desc).map (fun d => d.parameters.length) = some n) (hR : rm.cells = 0 ∧ rm.slots = 0 ∧ rm.frames + 1 ≤ R.frames ∧ 8 + (maxL + 11) + rm.locals ≤ R.locals) (hn : As.length = n) (hst : st0 = As.reverse ++ .ref (ea E 0) :: rest) (hW : (rest.map fun v => v.category).sum ≤ 8) (hdg : decode cc pc = .ok (.invokevirtual index, 3)) (hf : cells ≤ R.cells ∧ slots ≤ R.slots) (hP : va_P (eD E) vwCl (wd z E σ) H) (hP2 : va_P (eD E') vwCl (wd zo E' τ) H) (hS : va_S (fun q => s.heap.size ≤ q) s.heap H locs) (hl : ls.size = nL)
    (kk : ∀ (H : Heap) (locs : List Loc), va_P (eD E) vwCl (wd z E σ') H → va_P (eD E') vwCl (wd zo E' τ) H → va_S (fun q => s.heap.size ≤ q) s.heap H locs → W p l e R s m args below meth c H locs cells slots Q (F0 m (pc + 3) ls (.int r :: rest))) : W p l e R s m args below meth c H locs cells slots Q (F0 m pc ls st0) := by
  obtain ⟨hx, hb, hml, hown, hts⟩ := S
  have hA : ∀ q, aW z E H.size q → s.heap.size ≤ q := fun q h => h.elim (fun ⟨k, hk, e⟩ => by rw [e]; exact hin k hk) (fun h => Nat.le_trans hS.1 h)
  have he : (wd z E σ)[0]? = some (ea E 0, .inr (ci, fl (σ 0))) := by rw [wd_at ho.1, ho.2]
  refine va_calli (va_runV (As := As) (rest := rest) ⟨hx, hb, hml, hown, hts⟩ hM (cwV n hts hg rfl hR.1 hR.2.1 hd hR.2.2) ⟨preW_bl, va_recv hK hP hc he, fun U hU hW => ⟨rfl, by rw [hU], by rw [hU]; exact hP, va_K.moved hW.alike hK, xx_mv hX hS hW hU hA⟩⟩ rfl hn hl hst (lv_room hW) hdg hf) hS (fun q _ h => hA q h) hA (fun r2 u t H1 locs1 ht hvm hw hB hz1 hk1 hS1 => ?_)
  obtain ⟨rfl, rfl⟩ := hw
  refine kk H1 locs1 (by rw [← ht]; exact hB) (hP2.kept (fun k q hq => ?_)) hS1
  have hlt := (hP2 k q hq).lt
  have hk : k < nP zo := by
    have h1 := (List.getElem?_eq_some_iff.mp hq).1
    simpa [wd] using h1
  rw [wd_at hk] at hq
  have e1 : q.1 = ea E' k := by rw [← Option.some.inj hq]
  refine hk1 q.1 hlt (fun h => ?_)
  rcases h with ⟨i, hi, e2⟩ | h
  · exact hdis i k hi hk (by rw [← e2, e1])
  · omega
end WR2
def op_0 (Rel : St → St → Prop) : Prop := ∀ (σ τ : St) (a0 : Int32), Rel σ τ → ∃ r σ1 τ1, fX10_sort σ a0 = some (r, σ1) ∧ fX11_sort τ a0 = some (r, τ1) ∧ Rel σ1 τ1
set_option maxHeartbeats 4000000 in
theorem lc_0 (Rel : St → St → Prop) (hop : op_0 Rel) {p : Program} {l : Launch} {e : Env} {s : State} {m : MethodId} {below : List Frame} {meth : Method} {c : Code} {E1 E2 : Ev} {b L : Nat} {xs : Nat → Int32} {cells slots : Nat} {Q : State → Prop} (C : LC E1 E2 p s m c b L xs) (hcs : cells ≤ room_1.cells ∧ slots ≤ room_1.slots) (x3 : Int32) (h1 : vp_in (x3 + 1) L) (h2 : vp_in (x3 + 2) L) (h3 : vp_in (x3 + 3) L) (h4 : vp_in (x3 + 4) L) (h5 : vp_in (x3 + 5) L) (σ τ : St) (hRel : Rel σ τ) (H : Heap) (locs : List Loc) (ls : Array Slot) (hP : va_P (eD E1) vwCl (wd true E1 σ) H) (hPm : va_P (eD E2) vwCl (wd false E2 τ) H) (hS : va_S (fun q => s.heap.size ≤ q) s.heap H locs) (hl : lv_has ls 4 [(0, .ref b), (1, .ref (ea E1 0)), (2, .ref (ea E2 0)), (3, .int x3)]) (hnx : (∀ (σ τ : St) (H : Heap) (locs : List Loc), Rel σ τ → va_P (eD E1) vwCl (wd true E1 σ) H → va_P (eD E2) vwCl (wd false E2 τ) H → va_S (fun q => s.heap.size ≤ q) s.heap H locs → W p l e room_1 s m #[Value.ref b] below meth c H locs cells slots Q (F0 m 1264 ls []))) : W p l e room_1 s m #[Value.ref b] below meth c H locs cells slots Q (F0 m 168 ls []) := by
  obtain ⟨S, hXs, hbl, ⟨hK1, hK2⟩, hX, ⟨hj1, hj2⟩, hdis, hin1, hin2⟩ := C
  have hbA : ¬ (fun q : Nat => s.heap.size ≤ q) b := Nat.not_le.mpr hbl
  obtain ⟨hx, hb, hml, hown, hts⟩ := id S
  refine lv_aload_n hx hb dL_law_168 rfl (lv_at hl 1 rfl) ?_
  refine lv_aload_n hx hb dL_law_169 rfl (lv_at hl 0 rfl) ?_
  refine lv_iload_n hx hb dL_law_170 rfl (lv_at hl 3 rfl) ?_
  refine lv_iconst (v := 1) hx hb dL_law_171 (by decide) ?_
  refine lv_iadd hx hb dL_law_172 ?_
  refine va_sld hx hb hXs hbl hbA hS h1 dL_law_173 ?_
  obtain ⟨r, σ1, τ1, hc, hm, hR1⟩ := hop σ τ (xs (x3 + 1).toNatClampNeg) hRel
  refine w_call (z := true) (zo := false) (E' := E2) (n := 1) (As := [.int (xs (x3 + 1).toNatClampNeg)]) (rest := []) S hK1 hX hdis hin1 (c_fX10_sort hj1 σ H.size (xs (x3 + 1).toNatClampNeg) hc) oC_0 rfl gv_RL_13 (by decide +kernel) ⟨rfl, rfl, by decide, by decide⟩ rfl rfl (Nat.le_of_ble_eq_true rfl) dL_law_174 hcs hP hPm hS hl.1 (fun H locs hP hPm hS => ?_)
  refine lv_aload_n hx hb dL_law_177 rfl (lv_at hl 2 rfl) ?_
  refine lv_aload_n hx hb dL_law_178 rfl (lv_at hl 0 rfl) ?_
  refine lv_iload_n hx hb dL_law_179 rfl (lv_at hl 3 rfl) ?_
  refine lv_iconst (v := 1) hx hb dL_law_180 (by decide) ?_
  refine lv_iadd hx hb dL_law_181 ?_
  refine va_sld hx hb hXs hbl hbA hS h1 dL_law_182 ?_
  refine w_call (z := false) (zo := true) (E' := E1) (n := 1) (As := [.int (xs (x3 + 1).toNatClampNeg)]) (rest := [.int r]) S hK2 trivial (fun i j hi hj => (hdis j i hj hi).symm) hin2 (c_fX11_sort hj2 τ H.size (xs (x3 + 1).toNatClampNeg) hm) oM_0 rfl gv_RL_17 (by decide +kernel) ⟨rfl, rfl, by decide, by decide⟩ rfl rfl (Nat.le_of_ble_eq_true rfl) dL_law_183 hcs hPm hP hS hl.1 (fun H locs hPm hP hS => ?_)
  exact lv_icmp_eq (tgt := 1264) hx hb dL_law_186 (by decide) (fun _ => hnx σ1 τ1 H locs hR1 hP hPm hS) (fun c2 => absurd rfl c2)
def op_1 (Rel : St → St → Prop) : Prop := ∀ (σ τ : St) (a0 a1 a2 : Int32), Rel σ τ → ∃ r σ1 τ1, fX10_sky σ a0 a1 a2 = some (r, σ1) ∧ fX11_sky τ a0 a1 a2 = some (r, τ1) ∧ Rel σ1 τ1
set_option maxHeartbeats 4000000 in
theorem lc_1 (Rel : St → St → Prop) (hop : op_1 Rel) {p : Program} {l : Launch} {e : Env} {s : State} {m : MethodId} {below : List Frame} {meth : Method} {c : Code} {E1 E2 : Ev} {b L : Nat} {xs : Nat → Int32} {cells slots : Nat} {Q : State → Prop} (C : LC E1 E2 p s m c b L xs) (hcs : cells ≤ room_1.cells ∧ slots ≤ room_1.slots) (x3 : Int32) (h1 : vp_in (x3 + 1) L) (h2 : vp_in (x3 + 2) L) (h3 : vp_in (x3 + 3) L) (h4 : vp_in (x3 + 4) L) (h5 : vp_in (x3 + 5) L) (σ τ : St) (hRel : Rel σ τ) (H : Heap) (locs : List Loc) (ls : Array Slot) (hP : va_P (eD E1) vwCl (wd true E1 σ) H) (hPm : va_P (eD E2) vwCl (wd false E2 τ) H) (hS : va_S (fun q => s.heap.size ≤ q) s.heap H locs) (hl : lv_has ls 4 [(0, .ref b), (1, .ref (ea E1 0)), (2, .ref (ea E2 0)), (3, .int x3)]) (hnx : (∀ (σ τ : St) (H : Heap) (locs : List Loc), Rel σ τ → va_P (eD E1) vwCl (wd true E1 σ) H → va_P (eD E2) vwCl (wd false E2 τ) H → va_S (fun q => s.heap.size ≤ q) s.heap H locs → W p l e room_1 s m #[Value.ref b] below meth c H locs cells slots Q (F0 m 1264 ls []))) : W p l e room_1 s m #[Value.ref b] below meth c H locs cells slots Q (F0 m 191 ls []) := by
  obtain ⟨S, hXs, hbl, ⟨hK1, hK2⟩, hX, ⟨hj1, hj2⟩, hdis, hin1, hin2⟩ := C
  have hbA : ¬ (fun q : Nat => s.heap.size ≤ q) b := Nat.not_le.mpr hbl
  obtain ⟨hx, hb, hml, hown, hts⟩ := id S
  refine lv_aload_n hx hb dL_law_191 rfl (lv_at hl 1 rfl) ?_
  refine lv_aload_n hx hb dL_law_192 rfl (lv_at hl 0 rfl) ?_
  refine lv_iload_n hx hb dL_law_193 rfl (lv_at hl 3 rfl) ?_
  refine lv_iconst (v := 1) hx hb dL_law_194 (by decide) ?_
  refine lv_iadd hx hb dL_law_195 ?_
  refine va_sld hx hb hXs hbl hbA hS h1 dL_law_196 ?_
  refine lv_aload_n hx hb dL_law_197 rfl (lv_at hl 0 rfl) ?_
  refine lv_iload_n hx hb dL_law_198 rfl (lv_at hl 3 rfl) ?_
  refine lv_iconst (v := 2) hx hb dL_law_199 (by decide) ?_
  refine lv_iadd hx hb dL_law_200 ?_
  refine va_sld hx hb hXs hbl hbA hS h2 dL_law_201 ?_
  refine lv_aload_n hx hb dL_law_202 rfl (lv_at hl 0 rfl) ?_
  refine lv_iload_n hx hb dL_law_203 rfl (lv_at hl 3 rfl) ?_
  refine lv_iconst (v := 3) hx hb dL_law_204 (by decide) ?_
  refine lv_iadd hx hb dL_law_205 ?_
  refine va_sld hx hb hXs hbl hbA hS h3 dL_law_206 ?_
  obtain ⟨r, σ1, τ1, hc, hm, hR1⟩ := hop σ τ (xs (x3 + 1).toNatClampNeg) (xs (x3 + 2).toNatClampNeg) (xs (x3 + 3).toNatClampNeg) hRel
  refine w_call (z := true) (zo := false) (E' := E2) (n := 3) (As := [.int (xs (x3 + 1).toNatClampNeg), .int (xs (x3 + 2).toNatClampNeg), .int (xs (x3 + 3).toNatClampNeg)]) (rest := []) S hK1 hX hdis hin1 (c_fX10_sky hj1 σ H.size (xs (x3 + 1).toNatClampNeg) (xs (x3 + 2).toNatClampNeg) (xs (x3 + 3).toNatClampNeg) hc) oC_0 rfl gv_RL_18 (by decide +kernel) ⟨rfl, rfl, by decide, by decide⟩ rfl rfl (Nat.le_of_ble_eq_true rfl) dL_law_207 hcs hP hPm hS hl.1 (fun H locs hP hPm hS => ?_)
  refine lv_aload_n hx hb dL_law_210 rfl (lv_at hl 2 rfl) ?_
  refine lv_aload_n hx hb dL_law_211 rfl (lv_at hl 0 rfl) ?_
  refine lv_iload_n hx hb dL_law_212 rfl (lv_at hl 3 rfl) ?_
  refine lv_iconst (v := 1) hx hb dL_law_213 (by decide) ?_
  refine lv_iadd hx hb dL_law_214 ?_
  refine va_sld hx hb hXs hbl hbA hS h1 dL_law_215 ?_
  refine lv_aload_n hx hb dL_law_216 rfl (lv_at hl 0 rfl) ?_
  refine lv_iload_n hx hb dL_law_217 rfl (lv_at hl 3 rfl) ?_
  refine lv_iconst (v := 2) hx hb dL_law_218 (by decide) ?_
  refine lv_iadd hx hb dL_law_219 ?_
  refine va_sld hx hb hXs hbl hbA hS h2 dL_law_220 ?_
  refine lv_aload_n hx hb dL_law_221 rfl (lv_at hl 0 rfl) ?_
  refine lv_iload_n hx hb dL_law_222 rfl (lv_at hl 3 rfl) ?_
  refine lv_iconst (v := 3) hx hb dL_law_223 (by decide) ?_
  refine lv_iadd hx hb dL_law_224 ?_
  refine va_sld hx hb hXs hbl hbA hS h3 dL_law_225 ?_
  refine w_call (z := false) (zo := true) (E' := E1) (n := 3) (As := [.int (xs (x3 + 1).toNatClampNeg), .int (xs (x3 + 2).toNatClampNeg), .int (xs (x3 + 3).toNatClampNeg)]) (rest := [.int r]) S hK2 trivial (fun i j hi hj => (hdis j i hj hi).symm) hin2 (c_fX11_sky hj2 τ H.size (xs (x3 + 1).toNatClampNeg) (xs (x3 + 2).toNatClampNeg) (xs (x3 + 3).toNatClampNeg) hm) oM_0 rfl gv_RL_22 (by decide +kernel) ⟨rfl, rfl, by decide, by decide⟩ rfl rfl (Nat.le_of_ble_eq_true rfl) dL_law_226 hcs hPm hP hS hl.1 (fun H locs hPm hP hS => ?_)
  exact lv_icmp_eq (tgt := 1264) hx hb dL_law_229 (by decide) (fun _ => hnx σ1 τ1 H locs hR1 hP hPm hS) (fun c2 => absurd rfl c2)
def op_2 (Rel : St → St → Prop) : Prop := ∀ (σ τ : St) (a0 a1 a2 a3 a4 : Int32), Rel σ τ → ∃ r σ1 τ1, fX10_heap σ a0 a1 a2 a3 a4 = some (r, σ1) ∧ fX11_heap τ a0 a1 a2 a3 a4 = some (r, τ1) ∧ Rel σ1 τ1
set_option maxHeartbeats 4000000 in
theorem lc_2 (Rel : St → St → Prop) (hop : op_2 Rel) {p : Program} {l : Launch} {e : Env} {s : State} {m : MethodId} {below : List Frame} {meth : Method} {c : Code} {E1 E2 : Ev} {b L : Nat} {xs : Nat → Int32} {cells slots : Nat} {Q : State → Prop} (C : LC E1 E2 p s m c b L xs) (hcs : cells ≤ room_1.cells ∧ slots ≤ room_1.slots) (x3 : Int32) (h1 : vp_in (x3 + 1) L) (h2 : vp_in (x3 + 2) L) (h3 : vp_in (x3 + 3) L) (h4 : vp_in (x3 + 4) L) (h5 : vp_in (x3 + 5) L) (σ τ : St) (hRel : Rel σ τ) (H : Heap) (locs : List Loc) (ls : Array Slot) (hP : va_P (eD E1) vwCl (wd true E1 σ) H) (hPm : va_P (eD E2) vwCl (wd false E2 τ) H) (hS : va_S (fun q => s.heap.size ≤ q) s.heap H locs) (hl : lv_has ls 4 [(0, .ref b), (1, .ref (ea E1 0)), (2, .ref (ea E2 0)), (3, .int x3)]) (hnx : (∀ (σ τ : St) (H : Heap) (locs : List Loc), Rel σ τ → va_P (eD E1) vwCl (wd true E1 σ) H → va_P (eD E2) vwCl (wd false E2 τ) H → va_S (fun q => s.heap.size ≤ q) s.heap H locs → W p l e room_1 s m #[Value.ref b] below meth c H locs cells slots Q (F0 m 1264 ls []))) : W p l e room_1 s m #[Value.ref b] below meth c H locs cells slots Q (F0 m 234 ls []) := by
  obtain ⟨S, hXs, hbl, ⟨hK1, hK2⟩, hX, ⟨hj1, hj2⟩, hdis, hin1, hin2⟩ := C
  have hbA : ¬ (fun q : Nat => s.heap.size ≤ q) b := Nat.not_le.mpr hbl
  obtain ⟨hx, hb, hml, hown, hts⟩ := id S
  refine lv_aload_n hx hb dL_law_234 rfl (lv_at hl 1 rfl) ?_
  refine lv_aload_n hx hb dL_law_235 rfl (lv_at hl 0 rfl) ?_
  refine lv_iload_n hx hb dL_law_236 rfl (lv_at hl 3 rfl) ?_
  refine lv_iconst (v := 1) hx hb dL_law_237 (by decide) ?_
  refine lv_iadd hx hb dL_law_238 ?_
  refine va_sld hx hb hXs hbl hbA hS h1 dL_law_239 ?_
  refine lv_aload_n hx hb dL_law_240 rfl (lv_at hl 0 rfl) ?_
  refine lv_iload_n hx hb dL_law_241 rfl (lv_at hl 3 rfl) ?_
  refine lv_iconst (v := 2) hx hb dL_law_242 (by decide) ?_
  refine lv_iadd hx hb dL_law_243 ?_
  refine va_sld hx hb hXs hbl hbA hS h2 dL_law_244 ?_
  refine lv_aload_n hx hb dL_law_245 rfl (lv_at hl 0 rfl) ?_
  refine lv_iload_n hx hb dL_law_246 rfl (lv_at hl 3 rfl) ?_
  refine lv_iconst (v := 3) hx hb dL_law_247 (by decide) ?_
  refine lv_iadd hx hb dL_law_248 ?_
  refine va_sld hx hb hXs hbl hbA hS h3 dL_law_249 ?_
  refine lv_aload_n hx hb dL_law_250 rfl (lv_at hl 0 rfl) ?_
  refine lv_iload_n hx hb dL_law_251 rfl (lv_at hl 3 rfl) ?_
  refine lv_iconst (v := 4) hx hb dL_law_252 (by decide) ?_
  refine lv_iadd hx hb dL_law_253 ?_
  refine va_sld hx hb hXs hbl hbA hS h4 dL_law_254 ?_
  refine lv_aload_n hx hb dL_law_255 rfl (lv_at hl 0 rfl) ?_
  refine lv_iload_n hx hb dL_law_256 rfl (lv_at hl 3 rfl) ?_
  refine lv_iconst (v := 5) hx hb dL_law_257 (by decide) ?_
  refine lv_iadd hx hb dL_law_258 ?_
  refine va_sld hx hb hXs hbl hbA hS h5 dL_law_259 ?_
  obtain ⟨r, σ1, τ1, hc, hm, hR1⟩ := hop σ τ (xs (x3 + 1).toNatClampNeg) (xs (x3 + 2).toNatClampNeg) (xs (x3 + 3).toNatClampNeg) (xs (x3 + 4).toNatClampNeg) (xs (x3 + 5).toNatClampNeg) hRel
  refine w_call (z := true) (zo := false) (E' := E2) (n := 5) (As := [.int (xs (x3 + 1).toNatClampNeg), .int (xs (x3 + 2).toNatClampNeg), .int (xs (x3 + 3).toNatClampNeg), .int (xs (x3 + 4).toNatClampNeg), .int (xs (x3 + 5).toNatClampNeg)]) (rest := []) S hK1 hX hdis hin1 (c_fX10_heap hj1 σ H.size (xs (x3 + 1).toNatClampNeg) (xs (x3 + 2).toNatClampNeg) (xs (x3 + 3).toNatClampNeg) (xs (x3 + 4).toNatClampNeg) (xs (x3 + 5).toNatClampNeg) hc) oC_0 rfl gv_RL_23 (by decide +kernel) ⟨rfl, rfl, by decide, by decide⟩ rfl rfl (Nat.le_of_ble_eq_true rfl) dL_law_260 hcs hP hPm hS hl.1 (fun H locs hP hPm hS => ?_)
  refine lv_aload_n hx hb dL_law_263 rfl (lv_at hl 2 rfl) ?_
  refine lv_aload_n hx hb dL_law_264 rfl (lv_at hl 0 rfl) ?_
  refine lv_iload_n hx hb dL_law_265 rfl (lv_at hl 3 rfl) ?_
  refine lv_iconst (v := 1) hx hb dL_law_266 (by decide) ?_
  refine lv_iadd hx hb dL_law_267 ?_
  refine va_sld hx hb hXs hbl hbA hS h1 dL_law_268 ?_
  refine lv_aload_n hx hb dL_law_269 rfl (lv_at hl 0 rfl) ?_
  refine lv_iload_n hx hb dL_law_270 rfl (lv_at hl 3 rfl) ?_
  refine lv_iconst (v := 2) hx hb dL_law_271 (by decide) ?_
  refine lv_iadd hx hb dL_law_272 ?_
  refine va_sld hx hb hXs hbl hbA hS h2 dL_law_273 ?_
  refine lv_aload_n hx hb dL_law_274 rfl (lv_at hl 0 rfl) ?_
  refine lv_iload_n hx hb dL_law_275 rfl (lv_at hl 3 rfl) ?_
  refine lv_iconst (v := 3) hx hb dL_law_276 (by decide) ?_
  refine lv_iadd hx hb dL_law_277 ?_
  refine va_sld hx hb hXs hbl hbA hS h3 dL_law_278 ?_
  refine lv_aload_n hx hb dL_law_279 rfl (lv_at hl 0 rfl) ?_
  refine lv_iload_n hx hb dL_law_280 rfl (lv_at hl 3 rfl) ?_
  refine lv_iconst (v := 4) hx hb dL_law_281 (by decide) ?_
  refine lv_iadd hx hb dL_law_282 ?_
  refine va_sld hx hb hXs hbl hbA hS h4 dL_law_283 ?_
  refine lv_aload_n hx hb dL_law_284 rfl (lv_at hl 0 rfl) ?_
  refine lv_iload_n hx hb dL_law_285 rfl (lv_at hl 3 rfl) ?_
  refine lv_iconst (v := 5) hx hb dL_law_286 (by decide) ?_
  refine lv_iadd hx hb dL_law_287 ?_
  refine va_sld hx hb hXs hbl hbA hS h5 dL_law_288 ?_
  refine w_call (z := false) (zo := true) (E' := E1) (n := 5) (As := [.int (xs (x3 + 1).toNatClampNeg), .int (xs (x3 + 2).toNatClampNeg), .int (xs (x3 + 3).toNatClampNeg), .int (xs (x3 + 4).toNatClampNeg), .int (xs (x3 + 5).toNatClampNeg)]) (rest := [.int r]) S hK2 trivial (fun i j hi hj => (hdis j i hj hi).symm) hin2 (c_fX11_heap hj2 τ H.size (xs (x3 + 1).toNatClampNeg) (xs (x3 + 2).toNatClampNeg) (xs (x3 + 3).toNatClampNeg) (xs (x3 + 4).toNatClampNeg) (xs (x3 + 5).toNatClampNeg) hm) oM_0 rfl gv_RL_27 (by decide +kernel) ⟨rfl, rfl, by decide, by decide⟩ rfl rfl (Nat.le_of_ble_eq_true rfl) dL_law_289 hcs hPm hP hS hl.1 (fun H locs hPm hP hS => ?_)
  exact lv_icmp_eq (tgt := 1264) hx hb dL_law_292 (by decide) (fun _ => hnx σ1 τ1 H locs hR1 hP hPm hS) (fun c2 => absurd rfl c2)
def op_3 (Rel : St → St → Prop) : Prop := ∀ (σ τ : St) (a0 a1 a2 a3 a4 : Int32), Rel σ τ → ∃ r τ1, fX10_cell σ a0 a1 a2 a3 a4 = some r ∧ fX11_cell τ a0 a1 a2 a3 a4 = some (r, τ1) ∧ Rel σ τ1
set_option maxHeartbeats 4000000 in
theorem lc_3 (Rel : St → St → Prop) (hop : op_3 Rel) {p : Program} {l : Launch} {e : Env} {s : State} {m : MethodId} {below : List Frame} {meth : Method} {c : Code} {E1 E2 : Ev} {b L : Nat} {xs : Nat → Int32} {cells slots : Nat} {Q : State → Prop} (C : LC E1 E2 p s m c b L xs) (hcs : cells ≤ room_1.cells ∧ slots ≤ room_1.slots) (x3 : Int32) (h1 : vp_in (x3 + 1) L) (h2 : vp_in (x3 + 2) L) (h3 : vp_in (x3 + 3) L) (h4 : vp_in (x3 + 4) L) (h5 : vp_in (x3 + 5) L) (σ τ : St) (hRel : Rel σ τ) (H : Heap) (locs : List Loc) (ls : Array Slot) (hP : va_P (eD E1) vwCl (wd true E1 σ) H) (hPm : va_P (eD E2) vwCl (wd false E2 τ) H) (hS : va_S (fun q => s.heap.size ≤ q) s.heap H locs) (hl : lv_has ls 4 [(0, .ref b), (1, .ref (ea E1 0)), (2, .ref (ea E2 0)), (3, .int x3)]) (hnx : (∀ (σ τ : St) (H : Heap) (locs : List Loc), Rel σ τ → va_P (eD E1) vwCl (wd true E1 σ) H → va_P (eD E2) vwCl (wd false E2 τ) H → va_S (fun q => s.heap.size ≤ q) s.heap H locs → W p l e room_1 s m #[Value.ref b] below meth c H locs cells slots Q (F0 m 1264 ls []))) : W p l e room_1 s m #[Value.ref b] below meth c H locs cells slots Q (F0 m 297 ls []) := by
  obtain ⟨S, hXs, hbl, ⟨hK1, hK2⟩, hX, ⟨hj1, hj2⟩, hdis, hin1, hin2⟩ := C
  have hbA : ¬ (fun q : Nat => s.heap.size ≤ q) b := Nat.not_le.mpr hbl
  obtain ⟨hx, hb, hml, hown, hts⟩ := id S
  refine lv_aload_n hx hb dL_law_297 rfl (lv_at hl 1 rfl) ?_
  refine lv_aload_n hx hb dL_law_298 rfl (lv_at hl 0 rfl) ?_
  refine lv_iload_n hx hb dL_law_299 rfl (lv_at hl 3 rfl) ?_
  refine lv_iconst (v := 1) hx hb dL_law_300 (by decide) ?_
  refine lv_iadd hx hb dL_law_301 ?_
  refine va_sld hx hb hXs hbl hbA hS h1 dL_law_302 ?_
  refine lv_aload_n hx hb dL_law_303 rfl (lv_at hl 0 rfl) ?_
  refine lv_iload_n hx hb dL_law_304 rfl (lv_at hl 3 rfl) ?_
  refine lv_iconst (v := 2) hx hb dL_law_305 (by decide) ?_
  refine lv_iadd hx hb dL_law_306 ?_
  refine va_sld hx hb hXs hbl hbA hS h2 dL_law_307 ?_
  refine lv_aload_n hx hb dL_law_308 rfl (lv_at hl 0 rfl) ?_
  refine lv_iload_n hx hb dL_law_309 rfl (lv_at hl 3 rfl) ?_
  refine lv_iconst (v := 3) hx hb dL_law_310 (by decide) ?_
  refine lv_iadd hx hb dL_law_311 ?_
  refine va_sld hx hb hXs hbl hbA hS h3 dL_law_312 ?_
  refine lv_aload_n hx hb dL_law_313 rfl (lv_at hl 0 rfl) ?_
  refine lv_iload_n hx hb dL_law_314 rfl (lv_at hl 3 rfl) ?_
  refine lv_iconst (v := 4) hx hb dL_law_315 (by decide) ?_
  refine lv_iadd hx hb dL_law_316 ?_
  refine va_sld hx hb hXs hbl hbA hS h4 dL_law_317 ?_
  refine lv_aload_n hx hb dL_law_318 rfl (lv_at hl 0 rfl) ?_
  refine lv_iload_n hx hb dL_law_319 rfl (lv_at hl 3 rfl) ?_
  refine lv_iconst (v := 5) hx hb dL_law_320 (by decide) ?_
  refine lv_iadd hx hb dL_law_321 ?_
  refine va_sld hx hb hXs hbl hbA hS h5 dL_law_322 ?_
  obtain ⟨r, τ1, hc, hm, hR1⟩ := hop σ τ (xs (x3 + 1).toNatClampNeg) (xs (x3 + 2).toNatClampNeg) (xs (x3 + 3).toNatClampNeg) (xs (x3 + 4).toNatClampNeg) (xs (x3 + 5).toNatClampNeg) hRel
  refine w_call (z := true) (zo := false) (E' := E2) (n := 5) (As := [.int (xs (x3 + 1).toNatClampNeg), .int (xs (x3 + 2).toNatClampNeg), .int (xs (x3 + 3).toNatClampNeg), .int (xs (x3 + 4).toNatClampNeg), .int (xs (x3 + 5).toNatClampNeg)]) (rest := []) S hK1 hX hdis hin1 (c_fX10_cell hj1 σ H.size (xs (x3 + 1).toNatClampNeg) (xs (x3 + 2).toNatClampNeg) (xs (x3 + 3).toNatClampNeg) (xs (x3 + 4).toNatClampNeg) (xs (x3 + 5).toNatClampNeg) hc) oC_0 rfl gv_RL_28 (by decide +kernel) ⟨rfl, rfl, by decide, by decide⟩ rfl rfl (Nat.le_of_ble_eq_true rfl) dL_law_323 hcs hP hPm hS hl.1 (fun H locs hP hPm hS => ?_)
  refine lv_aload_n hx hb dL_law_326 rfl (lv_at hl 2 rfl) ?_
  refine lv_aload_n hx hb dL_law_327 rfl (lv_at hl 0 rfl) ?_
  refine lv_iload_n hx hb dL_law_328 rfl (lv_at hl 3 rfl) ?_
  refine lv_iconst (v := 1) hx hb dL_law_329 (by decide) ?_
  refine lv_iadd hx hb dL_law_330 ?_
  refine va_sld hx hb hXs hbl hbA hS h1 dL_law_331 ?_
  refine lv_aload_n hx hb dL_law_332 rfl (lv_at hl 0 rfl) ?_
  refine lv_iload_n hx hb dL_law_333 rfl (lv_at hl 3 rfl) ?_
  refine lv_iconst (v := 2) hx hb dL_law_334 (by decide) ?_
  refine lv_iadd hx hb dL_law_335 ?_
  refine va_sld hx hb hXs hbl hbA hS h2 dL_law_336 ?_
  refine lv_aload_n hx hb dL_law_337 rfl (lv_at hl 0 rfl) ?_
  refine lv_iload_n hx hb dL_law_338 rfl (lv_at hl 3 rfl) ?_
  refine lv_iconst (v := 3) hx hb dL_law_339 (by decide) ?_
  refine lv_iadd hx hb dL_law_340 ?_
  refine va_sld hx hb hXs hbl hbA hS h3 dL_law_341 ?_
  refine lv_aload_n hx hb dL_law_342 rfl (lv_at hl 0 rfl) ?_
  refine lv_iload_n hx hb dL_law_343 rfl (lv_at hl 3 rfl) ?_
  refine lv_iconst (v := 4) hx hb dL_law_344 (by decide) ?_
  refine lv_iadd hx hb dL_law_345 ?_
  refine va_sld hx hb hXs hbl hbA hS h4 dL_law_346 ?_
  refine lv_aload_n hx hb dL_law_347 rfl (lv_at hl 0 rfl) ?_
  refine lv_iload_n hx hb dL_law_348 rfl (lv_at hl 3 rfl) ?_
  refine lv_iconst (v := 5) hx hb dL_law_349 (by decide) ?_
  refine lv_iadd hx hb dL_law_350 ?_
  refine va_sld hx hb hXs hbl hbA hS h5 dL_law_351 ?_
  refine w_call (z := false) (zo := true) (E' := E1) (n := 5) (As := [.int (xs (x3 + 1).toNatClampNeg), .int (xs (x3 + 2).toNatClampNeg), .int (xs (x3 + 3).toNatClampNeg), .int (xs (x3 + 4).toNatClampNeg), .int (xs (x3 + 5).toNatClampNeg)]) (rest := [.int r]) S hK2 trivial (fun i j hi hj => (hdis j i hj hi).symm) hin2 (c_fX11_cell hj2 τ H.size (xs (x3 + 1).toNatClampNeg) (xs (x3 + 2).toNatClampNeg) (xs (x3 + 3).toNatClampNeg) (xs (x3 + 4).toNatClampNeg) (xs (x3 + 5).toNatClampNeg) hm) oM_0 rfl gv_RL_32 (by decide +kernel) ⟨rfl, rfl, by decide, by decide⟩ rfl rfl (Nat.le_of_ble_eq_true rfl) dL_law_352 hcs hPm hP hS hl.1 (fun H locs hPm hP hS => ?_)
  exact lv_icmp_eq (tgt := 1264) hx hb dL_law_355 (by decide) (fun _ => hnx σ τ1 H locs hR1 hP hPm hS) (fun c2 => absurd rfl c2)
def op_4 (Rel : St → St → Prop) : Prop := ∀ (σ τ : St) (a0 a1 a2 a3 a4 : Int32), Rel σ τ → ∃ r σ1 τ1, fX10_feed σ a0 a1 a2 a3 a4 = some (r, σ1) ∧ fX11_feed τ a0 a1 a2 a3 a4 = some (r, τ1) ∧ Rel σ1 τ1
set_option maxHeartbeats 4000000 in
theorem lc_4 (Rel : St → St → Prop) (hop : op_4 Rel) {p : Program} {l : Launch} {e : Env} {s : State} {m : MethodId} {below : List Frame} {meth : Method} {c : Code} {E1 E2 : Ev} {b L : Nat} {xs : Nat → Int32} {cells slots : Nat} {Q : State → Prop} (C : LC E1 E2 p s m c b L xs) (hcs : cells ≤ room_1.cells ∧ slots ≤ room_1.slots) (x3 : Int32) (h1 : vp_in (x3 + 1) L) (h2 : vp_in (x3 + 2) L) (h3 : vp_in (x3 + 3) L) (h4 : vp_in (x3 + 4) L) (h5 : vp_in (x3 + 5) L) (σ τ : St) (hRel : Rel σ τ) (H : Heap) (locs : List Loc) (ls : Array Slot) (hP : va_P (eD E1) vwCl (wd true E1 σ) H) (hPm : va_P (eD E2) vwCl (wd false E2 τ) H) (hS : va_S (fun q => s.heap.size ≤ q) s.heap H locs) (hl : lv_has ls 4 [(0, .ref b), (1, .ref (ea E1 0)), (2, .ref (ea E2 0)), (3, .int x3)]) (hnx : (∀ (σ τ : St) (H : Heap) (locs : List Loc), Rel σ τ → va_P (eD E1) vwCl (wd true E1 σ) H → va_P (eD E2) vwCl (wd false E2 τ) H → va_S (fun q => s.heap.size ≤ q) s.heap H locs → W p l e room_1 s m #[Value.ref b] below meth c H locs cells slots Q (F0 m 1264 ls []))) : W p l e room_1 s m #[Value.ref b] below meth c H locs cells slots Q (F0 m 360 ls []) := by
  obtain ⟨S, hXs, hbl, ⟨hK1, hK2⟩, hX, ⟨hj1, hj2⟩, hdis, hin1, hin2⟩ := C
  have hbA : ¬ (fun q : Nat => s.heap.size ≤ q) b := Nat.not_le.mpr hbl
  obtain ⟨hx, hb, hml, hown, hts⟩ := id S
  refine lv_aload_n hx hb dL_law_360 rfl (lv_at hl 1 rfl) ?_
  refine lv_aload_n hx hb dL_law_361 rfl (lv_at hl 0 rfl) ?_
  refine lv_iload_n hx hb dL_law_362 rfl (lv_at hl 3 rfl) ?_
  refine lv_iconst (v := 1) hx hb dL_law_363 (by decide) ?_
  refine lv_iadd hx hb dL_law_364 ?_
  refine va_sld hx hb hXs hbl hbA hS h1 dL_law_365 ?_
  refine lv_aload_n hx hb dL_law_366 rfl (lv_at hl 0 rfl) ?_
  refine lv_iload_n hx hb dL_law_367 rfl (lv_at hl 3 rfl) ?_
  refine lv_iconst (v := 2) hx hb dL_law_368 (by decide) ?_
  refine lv_iadd hx hb dL_law_369 ?_
  refine va_sld hx hb hXs hbl hbA hS h2 dL_law_370 ?_
  refine lv_aload_n hx hb dL_law_371 rfl (lv_at hl 0 rfl) ?_
  refine lv_iload_n hx hb dL_law_372 rfl (lv_at hl 3 rfl) ?_
  refine lv_iconst (v := 3) hx hb dL_law_373 (by decide) ?_
  refine lv_iadd hx hb dL_law_374 ?_
  refine va_sld hx hb hXs hbl hbA hS h3 dL_law_375 ?_
  refine lv_aload_n hx hb dL_law_376 rfl (lv_at hl 0 rfl) ?_
  refine lv_iload_n hx hb dL_law_377 rfl (lv_at hl 3 rfl) ?_
  refine lv_iconst (v := 4) hx hb dL_law_378 (by decide) ?_
  refine lv_iadd hx hb dL_law_379 ?_
  refine va_sld hx hb hXs hbl hbA hS h4 dL_law_380 ?_
  refine lv_aload_n hx hb dL_law_381 rfl (lv_at hl 0 rfl) ?_
  refine lv_iload_n hx hb dL_law_382 rfl (lv_at hl 3 rfl) ?_
  refine lv_iconst (v := 5) hx hb dL_law_383 (by decide) ?_
  refine lv_iadd hx hb dL_law_384 ?_
  refine va_sld hx hb hXs hbl hbA hS h5 dL_law_385 ?_
  obtain ⟨r, σ1, τ1, hc, hm, hR1⟩ := hop σ τ (xs (x3 + 1).toNatClampNeg) (xs (x3 + 2).toNatClampNeg) (xs (x3 + 3).toNatClampNeg) (xs (x3 + 4).toNatClampNeg) (xs (x3 + 5).toNatClampNeg) hRel
  refine w_call (z := true) (zo := false) (E' := E2) (n := 5) (As := [.int (xs (x3 + 1).toNatClampNeg), .int (xs (x3 + 2).toNatClampNeg), .int (xs (x3 + 3).toNatClampNeg), .int (xs (x3 + 4).toNatClampNeg), .int (xs (x3 + 5).toNatClampNeg)]) (rest := []) S hK1 hX hdis hin1 (c_fX10_feed hj1 σ H.size (xs (x3 + 1).toNatClampNeg) (xs (x3 + 2).toNatClampNeg) (xs (x3 + 3).toNatClampNeg) (xs (x3 + 4).toNatClampNeg) (xs (x3 + 5).toNatClampNeg) hc) oC_0 rfl gv_RL_33 (by decide +kernel) ⟨rfl, rfl, by decide, by decide⟩ rfl rfl (Nat.le_of_ble_eq_true rfl) dL_law_386 hcs hP hPm hS hl.1 (fun H locs hP hPm hS => ?_)
  refine lv_aload_n hx hb dL_law_389 rfl (lv_at hl 2 rfl) ?_
  refine lv_aload_n hx hb dL_law_390 rfl (lv_at hl 0 rfl) ?_
  refine lv_iload_n hx hb dL_law_391 rfl (lv_at hl 3 rfl) ?_
  refine lv_iconst (v := 1) hx hb dL_law_392 (by decide) ?_
  refine lv_iadd hx hb dL_law_393 ?_
  refine va_sld hx hb hXs hbl hbA hS h1 dL_law_394 ?_
  refine lv_aload_n hx hb dL_law_395 rfl (lv_at hl 0 rfl) ?_
  refine lv_iload_n hx hb dL_law_396 rfl (lv_at hl 3 rfl) ?_
  refine lv_iconst (v := 2) hx hb dL_law_397 (by decide) ?_
  refine lv_iadd hx hb dL_law_398 ?_
  refine va_sld hx hb hXs hbl hbA hS h2 dL_law_399 ?_
  refine lv_aload_n hx hb dL_law_400 rfl (lv_at hl 0 rfl) ?_
  refine lv_iload_n hx hb dL_law_401 rfl (lv_at hl 3 rfl) ?_
  refine lv_iconst (v := 3) hx hb dL_law_402 (by decide) ?_
  refine lv_iadd hx hb dL_law_403 ?_
  refine va_sld hx hb hXs hbl hbA hS h3 dL_law_404 ?_
  refine lv_aload_n hx hb dL_law_405 rfl (lv_at hl 0 rfl) ?_
  refine lv_iload_n hx hb dL_law_406 rfl (lv_at hl 3 rfl) ?_
  refine lv_iconst (v := 4) hx hb dL_law_407 (by decide) ?_
  refine lv_iadd hx hb dL_law_408 ?_
  refine va_sld hx hb hXs hbl hbA hS h4 dL_law_409 ?_
  refine lv_aload_n hx hb dL_law_410 rfl (lv_at hl 0 rfl) ?_
  refine lv_iload_n hx hb dL_law_411 rfl (lv_at hl 3 rfl) ?_
  refine lv_iconst (v := 5) hx hb dL_law_412 (by decide) ?_
  refine lv_iadd hx hb dL_law_413 ?_
  refine va_sld hx hb hXs hbl hbA hS h5 dL_law_414 ?_
  refine w_call (z := false) (zo := true) (E' := E1) (n := 5) (As := [.int (xs (x3 + 1).toNatClampNeg), .int (xs (x3 + 2).toNatClampNeg), .int (xs (x3 + 3).toNatClampNeg), .int (xs (x3 + 4).toNatClampNeg), .int (xs (x3 + 5).toNatClampNeg)]) (rest := [.int r]) S hK2 trivial (fun i j hi hj => (hdis j i hj hi).symm) hin2 (c_fX11_feed hj2 τ H.size (xs (x3 + 1).toNatClampNeg) (xs (x3 + 2).toNatClampNeg) (xs (x3 + 3).toNatClampNeg) (xs (x3 + 4).toNatClampNeg) (xs (x3 + 5).toNatClampNeg) hm) oM_0 rfl gv_RL_36 (by decide +kernel) ⟨rfl, rfl, by decide, by decide⟩ rfl rfl (Nat.le_of_ble_eq_true rfl) dL_law_415 hcs hPm hP hS hl.1 (fun H locs hPm hP hS => ?_)
  exact lv_icmp_eq (tgt := 1264) hx hb dL_law_418 (by decide) (fun _ => hnx σ1 τ1 H locs hR1 hP hPm hS) (fun c2 => absurd rfl c2)
def op_5 (Rel : St → St → Prop) : Prop := ∀ (σ τ : St) (a0 : Int32), Rel σ τ → ∃ r σ1 τ1, fX10_end σ a0 = some (r, σ1) ∧ fX11_end τ a0 = some (r, τ1) ∧ Rel σ1 τ1
set_option maxHeartbeats 4000000 in
theorem lc_5 (Rel : St → St → Prop) (hop : op_5 Rel) {p : Program} {l : Launch} {e : Env} {s : State} {m : MethodId} {below : List Frame} {meth : Method} {c : Code} {E1 E2 : Ev} {b L : Nat} {xs : Nat → Int32} {cells slots : Nat} {Q : State → Prop} (C : LC E1 E2 p s m c b L xs) (hcs : cells ≤ room_1.cells ∧ slots ≤ room_1.slots) (x3 : Int32) (h1 : vp_in (x3 + 1) L) (h2 : vp_in (x3 + 2) L) (h3 : vp_in (x3 + 3) L) (h4 : vp_in (x3 + 4) L) (h5 : vp_in (x3 + 5) L) (σ τ : St) (hRel : Rel σ τ) (H : Heap) (locs : List Loc) (ls : Array Slot) (hP : va_P (eD E1) vwCl (wd true E1 σ) H) (hPm : va_P (eD E2) vwCl (wd false E2 τ) H) (hS : va_S (fun q => s.heap.size ≤ q) s.heap H locs) (hl : lv_has ls 4 [(0, .ref b), (1, .ref (ea E1 0)), (2, .ref (ea E2 0)), (3, .int x3)]) (hnx : (∀ (σ τ : St) (H : Heap) (locs : List Loc), Rel σ τ → va_P (eD E1) vwCl (wd true E1 σ) H → va_P (eD E2) vwCl (wd false E2 τ) H → va_S (fun q => s.heap.size ≤ q) s.heap H locs → W p l e room_1 s m #[Value.ref b] below meth c H locs cells slots Q (F0 m 1264 ls []))) : W p l e room_1 s m #[Value.ref b] below meth c H locs cells slots Q (F0 m 423 ls []) := by
  obtain ⟨S, hXs, hbl, ⟨hK1, hK2⟩, hX, ⟨hj1, hj2⟩, hdis, hin1, hin2⟩ := C
  have hbA : ¬ (fun q : Nat => s.heap.size ≤ q) b := Nat.not_le.mpr hbl
  obtain ⟨hx, hb, hml, hown, hts⟩ := id S
  refine lv_aload_n hx hb dL_law_423 rfl (lv_at hl 1 rfl) ?_
  refine lv_aload_n hx hb dL_law_424 rfl (lv_at hl 0 rfl) ?_
  refine lv_iload_n hx hb dL_law_425 rfl (lv_at hl 3 rfl) ?_
  refine lv_iconst (v := 1) hx hb dL_law_426 (by decide) ?_
  refine lv_iadd hx hb dL_law_427 ?_
  refine va_sld hx hb hXs hbl hbA hS h1 dL_law_428 ?_
  obtain ⟨r, σ1, τ1, hc, hm, hR1⟩ := hop σ τ (xs (x3 + 1).toNatClampNeg) hRel
  refine w_call (z := true) (zo := false) (E' := E2) (n := 1) (As := [.int (xs (x3 + 1).toNatClampNeg)]) (rest := []) S hK1 hX hdis hin1 (c_fX10_end hj1 σ H.size (xs (x3 + 1).toNatClampNeg) hc) oC_0 rfl gv_RL_37 (by decide +kernel) ⟨rfl, rfl, by decide, by decide⟩ rfl rfl (Nat.le_of_ble_eq_true rfl) dL_law_429 hcs hP hPm hS hl.1 (fun H locs hP hPm hS => ?_)
  refine lv_aload_n hx hb dL_law_432 rfl (lv_at hl 2 rfl) ?_
  refine lv_aload_n hx hb dL_law_433 rfl (lv_at hl 0 rfl) ?_
  refine lv_iload_n hx hb dL_law_434 rfl (lv_at hl 3 rfl) ?_
  refine lv_iconst (v := 1) hx hb dL_law_435 (by decide) ?_
  refine lv_iadd hx hb dL_law_436 ?_
  refine va_sld hx hb hXs hbl hbA hS h1 dL_law_437 ?_
  refine w_call (z := false) (zo := true) (E' := E1) (n := 1) (As := [.int (xs (x3 + 1).toNatClampNeg)]) (rest := [.int r]) S hK2 trivial (fun i j hi hj => (hdis j i hj hi).symm) hin2 (c_fX11_end hj2 τ H.size (xs (x3 + 1).toNatClampNeg) hm) oM_0 rfl gv_RL_40 (by decide +kernel) ⟨rfl, rfl, by decide, by decide⟩ rfl rfl (Nat.le_of_ble_eq_true rfl) dL_law_438 hcs hPm hP hS hl.1 (fun H locs hPm hP hS => ?_)
  exact lv_icmp_eq (tgt := 1264) hx hb dL_law_441 (by decide) (fun _ => hnx σ1 τ1 H locs hR1 hP hPm hS) (fun c2 => absurd rfl c2)
def op_6 (Rel : St → St → Prop) : Prop := ∀ (σ τ : St), Rel σ τ → ∃ r σ1 τ1, fX10_laws σ = some (r, σ1) ∧ fX11_laws τ = some (r, τ1) ∧ Rel σ1 τ1
set_option maxHeartbeats 4000000 in
theorem lc_6 (Rel : St → St → Prop) (hop : op_6 Rel) {p : Program} {l : Launch} {e : Env} {s : State} {m : MethodId} {below : List Frame} {meth : Method} {c : Code} {E1 E2 : Ev} {b L : Nat} {xs : Nat → Int32} {cells slots : Nat} {Q : State → Prop} (C : LC E1 E2 p s m c b L xs) (hcs : cells ≤ room_1.cells ∧ slots ≤ room_1.slots) (x3 : Int32) (h1 : vp_in (x3 + 1) L) (h2 : vp_in (x3 + 2) L) (h3 : vp_in (x3 + 3) L) (h4 : vp_in (x3 + 4) L) (h5 : vp_in (x3 + 5) L) (σ τ : St) (hRel : Rel σ τ) (H : Heap) (locs : List Loc) (ls : Array Slot) (hP : va_P (eD E1) vwCl (wd true E1 σ) H) (hPm : va_P (eD E2) vwCl (wd false E2 τ) H) (hS : va_S (fun q => s.heap.size ≤ q) s.heap H locs) (hl : lv_has ls 4 [(0, .ref b), (1, .ref (ea E1 0)), (2, .ref (ea E2 0)), (3, .int x3)]) (hnx : (∀ (σ τ : St) (H : Heap) (locs : List Loc), Rel σ τ → va_P (eD E1) vwCl (wd true E1 σ) H → va_P (eD E2) vwCl (wd false E2 τ) H → va_S (fun q => s.heap.size ≤ q) s.heap H locs → W p l e room_1 s m #[Value.ref b] below meth c H locs cells slots Q (F0 m 1264 ls []))) : W p l e room_1 s m #[Value.ref b] below meth c H locs cells slots Q (F0 m 446 ls []) := by
  obtain ⟨S, hXs, hbl, ⟨hK1, hK2⟩, hX, ⟨hj1, hj2⟩, hdis, hin1, hin2⟩ := C
  have hbA : ¬ (fun q : Nat => s.heap.size ≤ q) b := Nat.not_le.mpr hbl
  obtain ⟨hx, hb, hml, hown, hts⟩ := id S
  refine lv_aload_n hx hb dL_law_446 rfl (lv_at hl 1 rfl) ?_
  obtain ⟨r, σ1, τ1, hc, hm, hR1⟩ := hop σ τ hRel
  refine w_call (z := true) (zo := false) (E' := E2) (n := 0) (As := []) (rest := []) S hK1 hX hdis hin1 (c_fX10_laws hj1 σ H.size hc) oC_0 rfl gv_RL_41 (by decide +kernel) ⟨rfl, rfl, by decide, by decide⟩ rfl rfl (Nat.le_of_ble_eq_true rfl) dL_law_447 hcs hP hPm hS hl.1 (fun H locs hP hPm hS => ?_)
  refine lv_aload_n hx hb dL_law_450 rfl (lv_at hl 2 rfl) ?_
  refine w_call (z := false) (zo := true) (E' := E1) (n := 0) (As := []) (rest := [.int r]) S hK2 trivial (fun i j hi hj => (hdis j i hj hi).symm) hin2 (c_fX11_laws hj2 τ H.size hm) oM_0 rfl gv_RL_45 (by decide +kernel) ⟨rfl, rfl, by decide, by decide⟩ rfl rfl (Nat.le_of_ble_eq_true rfl) dL_law_451 hcs hPm hP hS hl.1 (fun H locs hPm hP hS => ?_)
  exact lv_icmp_eq (tgt := 1264) hx hb dL_law_454 (by decide) (fun _ => hnx σ1 τ1 H locs hR1 hP hPm hS) (fun c2 => absurd rfl c2)
def op_7 (Rel : St → St → Prop) : Prop := ∀ (σ τ : St), Rel σ τ → ∃ r σ1 τ1, fX10_code σ = some (r, σ1) ∧ fX11_code τ = some (r, τ1) ∧ Rel σ1 τ1
set_option maxHeartbeats 4000000 in
theorem lc_7 (Rel : St → St → Prop) (hop : op_7 Rel) {p : Program} {l : Launch} {e : Env} {s : State} {m : MethodId} {below : List Frame} {meth : Method} {c : Code} {E1 E2 : Ev} {b L : Nat} {xs : Nat → Int32} {cells slots : Nat} {Q : State → Prop} (C : LC E1 E2 p s m c b L xs) (hcs : cells ≤ room_1.cells ∧ slots ≤ room_1.slots) (x3 : Int32) (h1 : vp_in (x3 + 1) L) (h2 : vp_in (x3 + 2) L) (h3 : vp_in (x3 + 3) L) (h4 : vp_in (x3 + 4) L) (h5 : vp_in (x3 + 5) L) (σ τ : St) (hRel : Rel σ τ) (H : Heap) (locs : List Loc) (ls : Array Slot) (hP : va_P (eD E1) vwCl (wd true E1 σ) H) (hPm : va_P (eD E2) vwCl (wd false E2 τ) H) (hS : va_S (fun q => s.heap.size ≤ q) s.heap H locs) (hl : lv_has ls 4 [(0, .ref b), (1, .ref (ea E1 0)), (2, .ref (ea E2 0)), (3, .int x3)]) (hnx : (∀ (σ τ : St) (H : Heap) (locs : List Loc), Rel σ τ → va_P (eD E1) vwCl (wd true E1 σ) H → va_P (eD E2) vwCl (wd false E2 τ) H → va_S (fun q => s.heap.size ≤ q) s.heap H locs → W p l e room_1 s m #[Value.ref b] below meth c H locs cells slots Q (F0 m 1264 ls []))) : W p l e room_1 s m #[Value.ref b] below meth c H locs cells slots Q (F0 m 459 ls []) := by
  obtain ⟨S, hXs, hbl, ⟨hK1, hK2⟩, hX, ⟨hj1, hj2⟩, hdis, hin1, hin2⟩ := C
  have hbA : ¬ (fun q : Nat => s.heap.size ≤ q) b := Nat.not_le.mpr hbl
  obtain ⟨hx, hb, hml, hown, hts⟩ := id S
  refine lv_aload_n hx hb dL_law_459 rfl (lv_at hl 1 rfl) ?_
  obtain ⟨r, σ1, τ1, hc, hm, hR1⟩ := hop σ τ hRel
  refine w_call (z := true) (zo := false) (E' := E2) (n := 0) (As := []) (rest := []) S hK1 hX hdis hin1 (c_fX10_code hj1 σ H.size hc) oC_0 rfl gv_RL_46 (by decide +kernel) ⟨rfl, rfl, by decide, by decide⟩ rfl rfl (Nat.le_of_ble_eq_true rfl) dL_law_460 hcs hP hPm hS hl.1 (fun H locs hP hPm hS => ?_)
  refine lv_aload_n hx hb dL_law_463 rfl (lv_at hl 2 rfl) ?_
  refine w_call (z := false) (zo := true) (E' := E1) (n := 0) (As := []) (rest := [.int r]) S hK2 trivial (fun i j hi hj => (hdis j i hj hi).symm) hin2 (c_fX11_code hj2 τ H.size hm) oM_0 rfl gv_RL_49 (by decide +kernel) ⟨rfl, rfl, by decide, by decide⟩ rfl rfl (Nat.le_of_ble_eq_true rfl) dL_law_464 hcs hPm hP hS hl.1 (fun H locs hPm hP hS => ?_)
  exact lv_icmp_eq (tgt := 1264) hx hb dL_law_467 (by decide) (fun _ => hnx σ1 τ1 H locs hR1 hP hPm hS) (fun c2 => absurd rfl c2)
def op_8 (Rel : St → St → Prop) : Prop := ∀ (σ τ : St) (a0 : Int32), Rel σ τ → ∃ τ1, fX11_fault τ a0 = some (fX10_fault σ a0, τ1) ∧ Rel σ τ1
set_option maxHeartbeats 4000000 in
theorem lc_8 (Rel : St → St → Prop) (hop : op_8 Rel) {p : Program} {l : Launch} {e : Env} {s : State} {m : MethodId} {below : List Frame} {meth : Method} {c : Code} {E1 E2 : Ev} {b L : Nat} {xs : Nat → Int32} {cells slots : Nat} {Q : State → Prop} (C : LC E1 E2 p s m c b L xs) (hcs : cells ≤ room_1.cells ∧ slots ≤ room_1.slots) (x3 : Int32) (h1 : vp_in (x3 + 1) L) (h2 : vp_in (x3 + 2) L) (h3 : vp_in (x3 + 3) L) (h4 : vp_in (x3 + 4) L) (h5 : vp_in (x3 + 5) L) (σ τ : St) (hRel : Rel σ τ) (H : Heap) (locs : List Loc) (ls : Array Slot) (hP : va_P (eD E1) vwCl (wd true E1 σ) H) (hPm : va_P (eD E2) vwCl (wd false E2 τ) H) (hS : va_S (fun q => s.heap.size ≤ q) s.heap H locs) (hl : lv_has ls 4 [(0, .ref b), (1, .ref (ea E1 0)), (2, .ref (ea E2 0)), (3, .int x3)]) (hnx : (∀ (σ τ : St) (H : Heap) (locs : List Loc), Rel σ τ → va_P (eD E1) vwCl (wd true E1 σ) H → va_P (eD E2) vwCl (wd false E2 τ) H → va_S (fun q => s.heap.size ≤ q) s.heap H locs → W p l e room_1 s m #[Value.ref b] below meth c H locs cells slots Q (F0 m 1264 ls []))) : W p l e room_1 s m #[Value.ref b] below meth c H locs cells slots Q (F0 m 472 ls []) := by
  obtain ⟨S, hXs, hbl, ⟨hK1, hK2⟩, hX, ⟨hj1, hj2⟩, hdis, hin1, hin2⟩ := C
  have hbA : ¬ (fun q : Nat => s.heap.size ≤ q) b := Nat.not_le.mpr hbl
  obtain ⟨hx, hb, hml, hown, hts⟩ := id S
  refine lv_aload_n hx hb dL_law_472 rfl (lv_at hl 1 rfl) ?_
  refine lv_aload_n hx hb dL_law_473 rfl (lv_at hl 0 rfl) ?_
  refine lv_iload_n hx hb dL_law_474 rfl (lv_at hl 3 rfl) ?_
  refine lv_iconst (v := 1) hx hb dL_law_475 (by decide) ?_
  refine lv_iadd hx hb dL_law_476 ?_
  refine va_sld hx hb hXs hbl hbA hS h1 dL_law_477 ?_
  obtain ⟨τ1, hm, hR1⟩ := hop σ τ (xs (x3 + 1).toNatClampNeg) hRel
  refine w_call (z := true) (zo := false) (E' := E2) (n := 1) (As := [.int (xs (x3 + 1).toNatClampNeg)]) (rest := []) S hK1 hX hdis hin1 (c_fX10_fault hj1 σ H.size (xs (x3 + 1).toNatClampNeg)) oC_0 rfl gv_RL_50 (by decide +kernel) ⟨rfl, rfl, by decide, by decide⟩ rfl rfl (Nat.le_of_ble_eq_true rfl) dL_law_478 hcs hP hPm hS hl.1 (fun H locs hP hPm hS => ?_)
  refine lv_aload_n hx hb dL_law_481 rfl (lv_at hl 2 rfl) ?_
  refine lv_aload_n hx hb dL_law_482 rfl (lv_at hl 0 rfl) ?_
  refine lv_iload_n hx hb dL_law_483 rfl (lv_at hl 3 rfl) ?_
  refine lv_iconst (v := 1) hx hb dL_law_484 (by decide) ?_
  refine lv_iadd hx hb dL_law_485 ?_
  refine va_sld hx hb hXs hbl hbA hS h1 dL_law_486 ?_
  refine w_call (z := false) (zo := true) (E' := E1) (n := 1) (As := [.int (xs (x3 + 1).toNatClampNeg)]) (rest := [.int (fX10_fault σ (xs (x3 + 1).toNatClampNeg))]) S hK2 trivial (fun i j hi hj => (hdis j i hj hi).symm) hin2 (c_fX11_fault hj2 τ H.size (xs (x3 + 1).toNatClampNeg) hm) oM_0 rfl gv_RL_54 (by decide +kernel) ⟨rfl, rfl, by decide, by decide⟩ rfl rfl (Nat.le_of_ble_eq_true rfl) dL_law_487 hcs hPm hP hS hl.1 (fun H locs hPm hP hS => ?_)
  exact lv_icmp_eq (tgt := 1264) hx hb dL_law_490 (by decide) (fun _ => hnx σ τ1 H locs hR1 hP hPm hS) (fun c2 => absurd rfl c2)
def op_9 (Rel : St → St → Prop) : Prop := ∀ (σ τ : St) (a0 : Int32), Rel σ τ → ∃ r σ1 τ1, fX10_hours σ a0 = some (r, σ1) ∧ fX11_hours τ a0 = some (r, τ1) ∧ Rel σ1 τ1
set_option maxHeartbeats 4000000 in
theorem lc_9 (Rel : St → St → Prop) (hop : op_9 Rel) {p : Program} {l : Launch} {e : Env} {s : State} {m : MethodId} {below : List Frame} {meth : Method} {c : Code} {E1 E2 : Ev} {b L : Nat} {xs : Nat → Int32} {cells slots : Nat} {Q : State → Prop} (C : LC E1 E2 p s m c b L xs) (hcs : cells ≤ room_1.cells ∧ slots ≤ room_1.slots) (x3 : Int32) (h1 : vp_in (x3 + 1) L) (h2 : vp_in (x3 + 2) L) (h3 : vp_in (x3 + 3) L) (h4 : vp_in (x3 + 4) L) (h5 : vp_in (x3 + 5) L) (σ τ : St) (hRel : Rel σ τ) (H : Heap) (locs : List Loc) (ls : Array Slot) (hP : va_P (eD E1) vwCl (wd true E1 σ) H) (hPm : va_P (eD E2) vwCl (wd false E2 τ) H) (hS : va_S (fun q => s.heap.size ≤ q) s.heap H locs) (hl : lv_has ls 4 [(0, .ref b), (1, .ref (ea E1 0)), (2, .ref (ea E2 0)), (3, .int x3)]) (hnx : (∀ (σ τ : St) (H : Heap) (locs : List Loc), Rel σ τ → va_P (eD E1) vwCl (wd true E1 σ) H → va_P (eD E2) vwCl (wd false E2 τ) H → va_S (fun q => s.heap.size ≤ q) s.heap H locs → W p l e room_1 s m #[Value.ref b] below meth c H locs cells slots Q (F0 m 1264 ls []))) : W p l e room_1 s m #[Value.ref b] below meth c H locs cells slots Q (F0 m 495 ls []) := by
  obtain ⟨S, hXs, hbl, ⟨hK1, hK2⟩, hX, ⟨hj1, hj2⟩, hdis, hin1, hin2⟩ := C
  have hbA : ¬ (fun q : Nat => s.heap.size ≤ q) b := Nat.not_le.mpr hbl
  obtain ⟨hx, hb, hml, hown, hts⟩ := id S
  refine lv_aload_n hx hb dL_law_495 rfl (lv_at hl 1 rfl) ?_
  refine lv_aload_n hx hb dL_law_496 rfl (lv_at hl 0 rfl) ?_
  refine lv_iload_n hx hb dL_law_497 rfl (lv_at hl 3 rfl) ?_
  refine lv_iconst (v := 1) hx hb dL_law_498 (by decide) ?_
  refine lv_iadd hx hb dL_law_499 ?_
  refine va_sld hx hb hXs hbl hbA hS h1 dL_law_500 ?_
  obtain ⟨r, σ1, τ1, hc, hm, hR1⟩ := hop σ τ (xs (x3 + 1).toNatClampNeg) hRel
  refine w_call (z := true) (zo := false) (E' := E2) (n := 1) (As := [.int (xs (x3 + 1).toNatClampNeg)]) (rest := []) S hK1 hX hdis hin1 (c_fX10_hours hj1 σ H.size (xs (x3 + 1).toNatClampNeg) hc) oC_0 rfl gv_RL_55 (by decide +kernel) ⟨rfl, rfl, by decide, by decide⟩ rfl rfl (Nat.le_of_ble_eq_true rfl) dL_law_501 hcs hP hPm hS hl.1 (fun H locs hP hPm hS => ?_)
  refine lv_aload_n hx hb dL_law_504 rfl (lv_at hl 2 rfl) ?_
  refine lv_aload_n hx hb dL_law_505 rfl (lv_at hl 0 rfl) ?_
  refine lv_iload_n hx hb dL_law_506 rfl (lv_at hl 3 rfl) ?_
  refine lv_iconst (v := 1) hx hb dL_law_507 (by decide) ?_
  refine lv_iadd hx hb dL_law_508 ?_
  refine va_sld hx hb hXs hbl hbA hS h1 dL_law_509 ?_
  refine w_call (z := false) (zo := true) (E' := E1) (n := 1) (As := [.int (xs (x3 + 1).toNatClampNeg)]) (rest := [.int r]) S hK2 trivial (fun i j hi hj => (hdis j i hj hi).symm) hin2 (c_fX11_hours hj2 τ H.size (xs (x3 + 1).toNatClampNeg) hm) oM_0 rfl gv_RL_58 (by decide +kernel) ⟨rfl, rfl, by decide, by decide⟩ rfl rfl (Nat.le_of_ble_eq_true rfl) dL_law_510 hcs hPm hP hS hl.1 (fun H locs hPm hP hS => ?_)
  exact lv_icmp_eq (tgt := 1264) hx hb dL_law_513 (by decide) (fun _ => hnx σ1 τ1 H locs hR1 hP hPm hS) (fun c2 => absurd rfl c2)
def op_10 (Rel : St → St → Prop) : Prop := ∀ (σ τ : St) (a0 a1 a2 a3 : Int32), Rel σ τ → ∃ r σ1 τ1, fX10_load σ a0 a1 a2 a3 = some (r, σ1) ∧ fX11_load τ a0 a1 a2 a3 = some (r, τ1) ∧ Rel σ1 τ1
set_option maxHeartbeats 4000000 in
theorem lc_10 (Rel : St → St → Prop) (hop : op_10 Rel) {p : Program} {l : Launch} {e : Env} {s : State} {m : MethodId} {below : List Frame} {meth : Method} {c : Code} {E1 E2 : Ev} {b L : Nat} {xs : Nat → Int32} {cells slots : Nat} {Q : State → Prop} (C : LC E1 E2 p s m c b L xs) (hcs : cells ≤ room_1.cells ∧ slots ≤ room_1.slots) (x3 : Int32) (h1 : vp_in (x3 + 1) L) (h2 : vp_in (x3 + 2) L) (h3 : vp_in (x3 + 3) L) (h4 : vp_in (x3 + 4) L) (h5 : vp_in (x3 + 5) L) (σ τ : St) (hRel : Rel σ τ) (H : Heap) (locs : List Loc) (ls : Array Slot) (hP : va_P (eD E1) vwCl (wd true E1 σ) H) (hPm : va_P (eD E2) vwCl (wd false E2 τ) H) (hS : va_S (fun q => s.heap.size ≤ q) s.heap H locs) (hl : lv_has ls 4 [(0, .ref b), (1, .ref (ea E1 0)), (2, .ref (ea E2 0)), (3, .int x3)]) (hnx : (∀ (σ τ : St) (H : Heap) (locs : List Loc), Rel σ τ → va_P (eD E1) vwCl (wd true E1 σ) H → va_P (eD E2) vwCl (wd false E2 τ) H → va_S (fun q => s.heap.size ≤ q) s.heap H locs → W p l e room_1 s m #[Value.ref b] below meth c H locs cells slots Q (F0 m 1264 ls []))) : W p l e room_1 s m #[Value.ref b] below meth c H locs cells slots Q (F0 m 518 ls []) := by
  obtain ⟨S, hXs, hbl, ⟨hK1, hK2⟩, hX, ⟨hj1, hj2⟩, hdis, hin1, hin2⟩ := C
  have hbA : ¬ (fun q : Nat => s.heap.size ≤ q) b := Nat.not_le.mpr hbl
  obtain ⟨hx, hb, hml, hown, hts⟩ := id S
  refine lv_aload_n hx hb dL_law_518 rfl (lv_at hl 1 rfl) ?_
  refine lv_aload_n hx hb dL_law_519 rfl (lv_at hl 0 rfl) ?_
  refine lv_iload_n hx hb dL_law_520 rfl (lv_at hl 3 rfl) ?_
  refine lv_iconst (v := 1) hx hb dL_law_521 (by decide) ?_
  refine lv_iadd hx hb dL_law_522 ?_
  refine va_sld hx hb hXs hbl hbA hS h1 dL_law_523 ?_
  refine lv_aload_n hx hb dL_law_524 rfl (lv_at hl 0 rfl) ?_
  refine lv_iload_n hx hb dL_law_525 rfl (lv_at hl 3 rfl) ?_
  refine lv_iconst (v := 2) hx hb dL_law_526 (by decide) ?_
  refine lv_iadd hx hb dL_law_527 ?_
  refine va_sld hx hb hXs hbl hbA hS h2 dL_law_528 ?_
  refine lv_aload_n hx hb dL_law_529 rfl (lv_at hl 0 rfl) ?_
  refine lv_iload_n hx hb dL_law_530 rfl (lv_at hl 3 rfl) ?_
  refine lv_iconst (v := 3) hx hb dL_law_531 (by decide) ?_
  refine lv_iadd hx hb dL_law_532 ?_
  refine va_sld hx hb hXs hbl hbA hS h3 dL_law_533 ?_
  refine lv_aload_n hx hb dL_law_534 rfl (lv_at hl 0 rfl) ?_
  refine lv_iload_n hx hb dL_law_535 rfl (lv_at hl 3 rfl) ?_
  refine lv_iconst (v := 4) hx hb dL_law_536 (by decide) ?_
  refine lv_iadd hx hb dL_law_537 ?_
  refine va_sld hx hb hXs hbl hbA hS h4 dL_law_538 ?_
  obtain ⟨r, σ1, τ1, hc, hm, hR1⟩ := hop σ τ (xs (x3 + 1).toNatClampNeg) (xs (x3 + 2).toNatClampNeg) (xs (x3 + 3).toNatClampNeg) (xs (x3 + 4).toNatClampNeg) hRel
  refine w_call (z := true) (zo := false) (E' := E2) (n := 4) (As := [.int (xs (x3 + 1).toNatClampNeg), .int (xs (x3 + 2).toNatClampNeg), .int (xs (x3 + 3).toNatClampNeg), .int (xs (x3 + 4).toNatClampNeg)]) (rest := []) S hK1 hX hdis hin1 (c_fX10_load hj1 σ H.size (xs (x3 + 1).toNatClampNeg) (xs (x3 + 2).toNatClampNeg) (xs (x3 + 3).toNatClampNeg) (xs (x3 + 4).toNatClampNeg) hc) oC_0 rfl gv_RL_59 (by decide +kernel) ⟨rfl, rfl, by decide, by decide⟩ rfl rfl (Nat.le_of_ble_eq_true rfl) dL_law_539 hcs hP hPm hS hl.1 (fun H locs hP hPm hS => ?_)
  refine lv_aload_n hx hb dL_law_542 rfl (lv_at hl 2 rfl) ?_
  refine lv_aload_n hx hb dL_law_543 rfl (lv_at hl 0 rfl) ?_
  refine lv_iload_n hx hb dL_law_544 rfl (lv_at hl 3 rfl) ?_
  refine lv_iconst (v := 1) hx hb dL_law_545 (by decide) ?_
  refine lv_iadd hx hb dL_law_546 ?_
  refine va_sld hx hb hXs hbl hbA hS h1 dL_law_547 ?_
  refine lv_aload_n hx hb dL_law_548 rfl (lv_at hl 0 rfl) ?_
  refine lv_iload_n hx hb dL_law_549 rfl (lv_at hl 3 rfl) ?_
  refine lv_iconst (v := 2) hx hb dL_law_550 (by decide) ?_
  refine lv_iadd hx hb dL_law_551 ?_
  refine va_sld hx hb hXs hbl hbA hS h2 dL_law_552 ?_
  refine lv_aload_n hx hb dL_law_553 rfl (lv_at hl 0 rfl) ?_
  refine lv_iload_n hx hb dL_law_554 rfl (lv_at hl 3 rfl) ?_
  refine lv_iconst (v := 3) hx hb dL_law_555 (by decide) ?_
  refine lv_iadd hx hb dL_law_556 ?_
  refine va_sld hx hb hXs hbl hbA hS h3 dL_law_557 ?_
  refine lv_aload_n hx hb dL_law_558 rfl (lv_at hl 0 rfl) ?_
  refine lv_iload_n hx hb dL_law_559 rfl (lv_at hl 3 rfl) ?_
  refine lv_iconst (v := 4) hx hb dL_law_560 (by decide) ?_
  refine lv_iadd hx hb dL_law_561 ?_
  refine va_sld hx hb hXs hbl hbA hS h4 dL_law_562 ?_
  refine w_call (z := false) (zo := true) (E' := E1) (n := 4) (As := [.int (xs (x3 + 1).toNatClampNeg), .int (xs (x3 + 2).toNatClampNeg), .int (xs (x3 + 3).toNatClampNeg), .int (xs (x3 + 4).toNatClampNeg)]) (rest := [.int r]) S hK2 trivial (fun i j hi hj => (hdis j i hj hi).symm) hin2 (c_fX11_load hj2 τ H.size (xs (x3 + 1).toNatClampNeg) (xs (x3 + 2).toNatClampNeg) (xs (x3 + 3).toNatClampNeg) (xs (x3 + 4).toNatClampNeg) hm) oM_0 rfl gv_RL_63 (by decide +kernel) ⟨rfl, rfl, by decide, by decide⟩ rfl rfl (Nat.le_of_ble_eq_true rfl) dL_law_563 hcs hPm hP hS hl.1 (fun H locs hPm hP hS => ?_)
  exact lv_icmp_eq (tgt := 1264) hx hb dL_law_566 (by decide) (fun _ => hnx σ1 τ1 H locs hR1 hP hPm hS) (fun c2 => absurd rfl c2)
def op_11 (Rel : St → St → Prop) : Prop := ∀ (σ τ : St) (a0 a1 : Int32), Rel σ τ → ∃ r σ1 τ1, fX10_arm σ a0 a1 = some (r, σ1) ∧ fX11_arm τ a0 a1 = some (r, τ1) ∧ Rel σ1 τ1
set_option maxHeartbeats 4000000 in
theorem lc_11 (Rel : St → St → Prop) (hop : op_11 Rel) {p : Program} {l : Launch} {e : Env} {s : State} {m : MethodId} {below : List Frame} {meth : Method} {c : Code} {E1 E2 : Ev} {b L : Nat} {xs : Nat → Int32} {cells slots : Nat} {Q : State → Prop} (C : LC E1 E2 p s m c b L xs) (hcs : cells ≤ room_1.cells ∧ slots ≤ room_1.slots) (x3 : Int32) (h1 : vp_in (x3 + 1) L) (h2 : vp_in (x3 + 2) L) (h3 : vp_in (x3 + 3) L) (h4 : vp_in (x3 + 4) L) (h5 : vp_in (x3 + 5) L) (σ τ : St) (hRel : Rel σ τ) (H : Heap) (locs : List Loc) (ls : Array Slot) (hP : va_P (eD E1) vwCl (wd true E1 σ) H) (hPm : va_P (eD E2) vwCl (wd false E2 τ) H) (hS : va_S (fun q => s.heap.size ≤ q) s.heap H locs) (hl : lv_has ls 4 [(0, .ref b), (1, .ref (ea E1 0)), (2, .ref (ea E2 0)), (3, .int x3)]) (hnx : (∀ (σ τ : St) (H : Heap) (locs : List Loc), Rel σ τ → va_P (eD E1) vwCl (wd true E1 σ) H → va_P (eD E2) vwCl (wd false E2 τ) H → va_S (fun q => s.heap.size ≤ q) s.heap H locs → W p l e room_1 s m #[Value.ref b] below meth c H locs cells slots Q (F0 m 1264 ls []))) : W p l e room_1 s m #[Value.ref b] below meth c H locs cells slots Q (F0 m 571 ls []) := by
  obtain ⟨S, hXs, hbl, ⟨hK1, hK2⟩, hX, ⟨hj1, hj2⟩, hdis, hin1, hin2⟩ := C
  have hbA : ¬ (fun q : Nat => s.heap.size ≤ q) b := Nat.not_le.mpr hbl
  obtain ⟨hx, hb, hml, hown, hts⟩ := id S
  refine lv_aload_n hx hb dL_law_571 rfl (lv_at hl 1 rfl) ?_
  refine lv_aload_n hx hb dL_law_572 rfl (lv_at hl 0 rfl) ?_
  refine lv_iload_n hx hb dL_law_573 rfl (lv_at hl 3 rfl) ?_
  refine lv_iconst (v := 1) hx hb dL_law_574 (by decide) ?_
  refine lv_iadd hx hb dL_law_575 ?_
  refine va_sld hx hb hXs hbl hbA hS h1 dL_law_576 ?_
  refine lv_aload_n hx hb dL_law_577 rfl (lv_at hl 0 rfl) ?_
  refine lv_iload_n hx hb dL_law_578 rfl (lv_at hl 3 rfl) ?_
  refine lv_iconst (v := 2) hx hb dL_law_579 (by decide) ?_
  refine lv_iadd hx hb dL_law_580 ?_
  refine va_sld hx hb hXs hbl hbA hS h2 dL_law_581 ?_
  obtain ⟨r, σ1, τ1, hc, hm, hR1⟩ := hop σ τ (xs (x3 + 1).toNatClampNeg) (xs (x3 + 2).toNatClampNeg) hRel
  refine w_call (z := true) (zo := false) (E' := E2) (n := 2) (As := [.int (xs (x3 + 1).toNatClampNeg), .int (xs (x3 + 2).toNatClampNeg)]) (rest := []) S hK1 hX hdis hin1 (c_fX10_arm hj1 σ H.size (xs (x3 + 1).toNatClampNeg) (xs (x3 + 2).toNatClampNeg) hc) oC_0 rfl gv_RL_64 (by decide +kernel) ⟨rfl, rfl, by decide, by decide⟩ rfl rfl (Nat.le_of_ble_eq_true rfl) dL_law_582 hcs hP hPm hS hl.1 (fun H locs hP hPm hS => ?_)
  refine lv_aload_n hx hb dL_law_585 rfl (lv_at hl 2 rfl) ?_
  refine lv_aload_n hx hb dL_law_586 rfl (lv_at hl 0 rfl) ?_
  refine lv_iload_n hx hb dL_law_587 rfl (lv_at hl 3 rfl) ?_
  refine lv_iconst (v := 1) hx hb dL_law_588 (by decide) ?_
  refine lv_iadd hx hb dL_law_589 ?_
  refine va_sld hx hb hXs hbl hbA hS h1 dL_law_590 ?_
  refine lv_aload_n hx hb dL_law_591 rfl (lv_at hl 0 rfl) ?_
  refine lv_iload_n hx hb dL_law_592 rfl (lv_at hl 3 rfl) ?_
  refine lv_iconst (v := 2) hx hb dL_law_593 (by decide) ?_
  refine lv_iadd hx hb dL_law_594 ?_
  refine va_sld hx hb hXs hbl hbA hS h2 dL_law_595 ?_
  refine w_call (z := false) (zo := true) (E' := E1) (n := 2) (As := [.int (xs (x3 + 1).toNatClampNeg), .int (xs (x3 + 2).toNatClampNeg)]) (rest := [.int r]) S hK2 trivial (fun i j hi hj => (hdis j i hj hi).symm) hin2 (c_fX11_arm hj2 τ H.size (xs (x3 + 1).toNatClampNeg) (xs (x3 + 2).toNatClampNeg) hm) oM_0 rfl gv_RL_68 (by decide +kernel) ⟨rfl, rfl, by decide, by decide⟩ rfl rfl (Nat.le_of_ble_eq_true rfl) dL_law_596 hcs hPm hP hS hl.1 (fun H locs hPm hP hS => ?_)
  exact lv_icmp_eq (tgt := 1264) hx hb dL_law_599 (by decide) (fun _ => hnx σ1 τ1 H locs hR1 hP hPm hS) (fun c2 => absurd rfl c2)
def op_12 (Rel : St → St → Prop) : Prop := ∀ (σ τ : St) (a0 : Int32), Rel σ τ → ∃ r σ1 τ1, fX10_sail σ a0 = some (r, σ1) ∧ fX11_sail τ a0 = some (r, τ1) ∧ Rel σ1 τ1
set_option maxHeartbeats 4000000 in
theorem lc_12 (Rel : St → St → Prop) (hop : op_12 Rel) {p : Program} {l : Launch} {e : Env} {s : State} {m : MethodId} {below : List Frame} {meth : Method} {c : Code} {E1 E2 : Ev} {b L : Nat} {xs : Nat → Int32} {cells slots : Nat} {Q : State → Prop} (C : LC E1 E2 p s m c b L xs) (hcs : cells ≤ room_1.cells ∧ slots ≤ room_1.slots) (x3 : Int32) (h1 : vp_in (x3 + 1) L) (h2 : vp_in (x3 + 2) L) (h3 : vp_in (x3 + 3) L) (h4 : vp_in (x3 + 4) L) (h5 : vp_in (x3 + 5) L) (σ τ : St) (hRel : Rel σ τ) (H : Heap) (locs : List Loc) (ls : Array Slot) (hP : va_P (eD E1) vwCl (wd true E1 σ) H) (hPm : va_P (eD E2) vwCl (wd false E2 τ) H) (hS : va_S (fun q => s.heap.size ≤ q) s.heap H locs) (hl : lv_has ls 4 [(0, .ref b), (1, .ref (ea E1 0)), (2, .ref (ea E2 0)), (3, .int x3)]) (hnx : (∀ (σ τ : St) (H : Heap) (locs : List Loc), Rel σ τ → va_P (eD E1) vwCl (wd true E1 σ) H → va_P (eD E2) vwCl (wd false E2 τ) H → va_S (fun q => s.heap.size ≤ q) s.heap H locs → W p l e room_1 s m #[Value.ref b] below meth c H locs cells slots Q (F0 m 1264 ls []))) : W p l e room_1 s m #[Value.ref b] below meth c H locs cells slots Q (F0 m 604 ls []) := by
  obtain ⟨S, hXs, hbl, ⟨hK1, hK2⟩, hX, ⟨hj1, hj2⟩, hdis, hin1, hin2⟩ := C
  have hbA : ¬ (fun q : Nat => s.heap.size ≤ q) b := Nat.not_le.mpr hbl
  obtain ⟨hx, hb, hml, hown, hts⟩ := id S
  refine lv_aload_n hx hb dL_law_604 rfl (lv_at hl 1 rfl) ?_
  refine lv_aload_n hx hb dL_law_605 rfl (lv_at hl 0 rfl) ?_
  refine lv_iload_n hx hb dL_law_606 rfl (lv_at hl 3 rfl) ?_
  refine lv_iconst (v := 1) hx hb dL_law_607 (by decide) ?_
  refine lv_iadd hx hb dL_law_608 ?_
  refine va_sld hx hb hXs hbl hbA hS h1 dL_law_609 ?_
  obtain ⟨r, σ1, τ1, hc, hm, hR1⟩ := hop σ τ (xs (x3 + 1).toNatClampNeg) hRel
  refine w_call (z := true) (zo := false) (E' := E2) (n := 1) (As := [.int (xs (x3 + 1).toNatClampNeg)]) (rest := []) S hK1 hX hdis hin1 (c_fX10_sail hj1 σ H.size (xs (x3 + 1).toNatClampNeg) hc) oC_0 rfl gv_RL_69 (by decide +kernel) ⟨rfl, rfl, by decide, by decide⟩ rfl rfl (Nat.le_of_ble_eq_true rfl) dL_law_610 hcs hP hPm hS hl.1 (fun H locs hP hPm hS => ?_)
  refine lv_aload_n hx hb dL_law_613 rfl (lv_at hl 2 rfl) ?_
  refine lv_aload_n hx hb dL_law_614 rfl (lv_at hl 0 rfl) ?_
  refine lv_iload_n hx hb dL_law_615 rfl (lv_at hl 3 rfl) ?_
  refine lv_iconst (v := 1) hx hb dL_law_616 (by decide) ?_
  refine lv_iadd hx hb dL_law_617 ?_
  refine va_sld hx hb hXs hbl hbA hS h1 dL_law_618 ?_
  refine w_call (z := false) (zo := true) (E' := E1) (n := 1) (As := [.int (xs (x3 + 1).toNatClampNeg)]) (rest := [.int r]) S hK2 trivial (fun i j hi hj => (hdis j i hj hi).symm) hin2 (c_fX11_sail hj2 τ H.size (xs (x3 + 1).toNatClampNeg) hm) oM_0 rfl gv_RL_72 (by decide +kernel) ⟨rfl, rfl, by decide, by decide⟩ rfl rfl (Nat.le_of_ble_eq_true rfl) dL_law_619 hcs hPm hP hS hl.1 (fun H locs hPm hP hS => ?_)
  exact lv_icmp_eq (tgt := 1264) hx hb dL_law_622 (by decide) (fun _ => hnx σ1 τ1 H locs hR1 hP hPm hS) (fun c2 => absurd rfl c2)
def op_13 (Rel : St → St → Prop) : Prop := ∀ (σ τ : St) (a0 : Int32), Rel σ τ → ∃ r τ1, fX10_ship σ a0 = some r ∧ fX11_ship τ a0 = some (r, τ1) ∧ Rel σ τ1
set_option maxHeartbeats 4000000 in
theorem lc_13 (Rel : St → St → Prop) (hop : op_13 Rel) {p : Program} {l : Launch} {e : Env} {s : State} {m : MethodId} {below : List Frame} {meth : Method} {c : Code} {E1 E2 : Ev} {b L : Nat} {xs : Nat → Int32} {cells slots : Nat} {Q : State → Prop} (C : LC E1 E2 p s m c b L xs) (hcs : cells ≤ room_1.cells ∧ slots ≤ room_1.slots) (x3 : Int32) (h1 : vp_in (x3 + 1) L) (h2 : vp_in (x3 + 2) L) (h3 : vp_in (x3 + 3) L) (h4 : vp_in (x3 + 4) L) (h5 : vp_in (x3 + 5) L) (σ τ : St) (hRel : Rel σ τ) (H : Heap) (locs : List Loc) (ls : Array Slot) (hP : va_P (eD E1) vwCl (wd true E1 σ) H) (hPm : va_P (eD E2) vwCl (wd false E2 τ) H) (hS : va_S (fun q => s.heap.size ≤ q) s.heap H locs) (hl : lv_has ls 4 [(0, .ref b), (1, .ref (ea E1 0)), (2, .ref (ea E2 0)), (3, .int x3)]) (hnx : (∀ (σ τ : St) (H : Heap) (locs : List Loc), Rel σ τ → va_P (eD E1) vwCl (wd true E1 σ) H → va_P (eD E2) vwCl (wd false E2 τ) H → va_S (fun q => s.heap.size ≤ q) s.heap H locs → W p l e room_1 s m #[Value.ref b] below meth c H locs cells slots Q (F0 m 1264 ls []))) : W p l e room_1 s m #[Value.ref b] below meth c H locs cells slots Q (F0 m 627 ls []) := by
  obtain ⟨S, hXs, hbl, ⟨hK1, hK2⟩, hX, ⟨hj1, hj2⟩, hdis, hin1, hin2⟩ := C
  have hbA : ¬ (fun q : Nat => s.heap.size ≤ q) b := Nat.not_le.mpr hbl
  obtain ⟨hx, hb, hml, hown, hts⟩ := id S
  refine lv_aload_n hx hb dL_law_627 rfl (lv_at hl 1 rfl) ?_
  refine lv_aload_n hx hb dL_law_628 rfl (lv_at hl 0 rfl) ?_
  refine lv_iload_n hx hb dL_law_629 rfl (lv_at hl 3 rfl) ?_
  refine lv_iconst (v := 1) hx hb dL_law_630 (by decide) ?_
  refine lv_iadd hx hb dL_law_631 ?_
  refine va_sld hx hb hXs hbl hbA hS h1 dL_law_632 ?_
  obtain ⟨r, τ1, hc, hm, hR1⟩ := hop σ τ (xs (x3 + 1).toNatClampNeg) hRel
  refine w_call (z := true) (zo := false) (E' := E2) (n := 1) (As := [.int (xs (x3 + 1).toNatClampNeg)]) (rest := []) S hK1 hX hdis hin1 (c_fX10_ship hj1 σ H.size (xs (x3 + 1).toNatClampNeg) hc) oC_0 rfl gv_RL_73 (by decide +kernel) ⟨rfl, rfl, by decide, by decide⟩ rfl rfl (Nat.le_of_ble_eq_true rfl) dL_law_633 hcs hP hPm hS hl.1 (fun H locs hP hPm hS => ?_)
  refine lv_aload_n hx hb dL_law_636 rfl (lv_at hl 2 rfl) ?_
  refine lv_aload_n hx hb dL_law_637 rfl (lv_at hl 0 rfl) ?_
  refine lv_iload_n hx hb dL_law_638 rfl (lv_at hl 3 rfl) ?_
  refine lv_iconst (v := 1) hx hb dL_law_639 (by decide) ?_
  refine lv_iadd hx hb dL_law_640 ?_
  refine va_sld hx hb hXs hbl hbA hS h1 dL_law_641 ?_
  refine w_call (z := false) (zo := true) (E' := E1) (n := 1) (As := [.int (xs (x3 + 1).toNatClampNeg)]) (rest := [.int r]) S hK2 trivial (fun i j hi hj => (hdis j i hj hi).symm) hin2 (c_fX11_ship hj2 τ H.size (xs (x3 + 1).toNatClampNeg) hm) oM_0 rfl gv_RL_76 (by decide +kernel) ⟨rfl, rfl, by decide, by decide⟩ rfl rfl (Nat.le_of_ble_eq_true rfl) dL_law_642 hcs hPm hP hS hl.1 (fun H locs hPm hP hS => ?_)
  exact lv_icmp_eq (tgt := 1264) hx hb dL_law_645 (by decide) (fun _ => hnx σ τ1 H locs hR1 hP hPm hS) (fun c2 => absurd rfl c2)
def op_14 (Rel : St → St → Prop) : Prop := ∀ (σ τ : St) (a0 : Int32), Rel σ τ → ∃ r τ1, fX10_arms σ a0 = some r ∧ fX11_arms τ a0 = some (r, τ1) ∧ Rel σ τ1
set_option maxHeartbeats 4000000 in
theorem lc_14 (Rel : St → St → Prop) (hop : op_14 Rel) {p : Program} {l : Launch} {e : Env} {s : State} {m : MethodId} {below : List Frame} {meth : Method} {c : Code} {E1 E2 : Ev} {b L : Nat} {xs : Nat → Int32} {cells slots : Nat} {Q : State → Prop} (C : LC E1 E2 p s m c b L xs) (hcs : cells ≤ room_1.cells ∧ slots ≤ room_1.slots) (x3 : Int32) (h1 : vp_in (x3 + 1) L) (h2 : vp_in (x3 + 2) L) (h3 : vp_in (x3 + 3) L) (h4 : vp_in (x3 + 4) L) (h5 : vp_in (x3 + 5) L) (σ τ : St) (hRel : Rel σ τ) (H : Heap) (locs : List Loc) (ls : Array Slot) (hP : va_P (eD E1) vwCl (wd true E1 σ) H) (hPm : va_P (eD E2) vwCl (wd false E2 τ) H) (hS : va_S (fun q => s.heap.size ≤ q) s.heap H locs) (hl : lv_has ls 4 [(0, .ref b), (1, .ref (ea E1 0)), (2, .ref (ea E2 0)), (3, .int x3)]) (hnx : (∀ (σ τ : St) (H : Heap) (locs : List Loc), Rel σ τ → va_P (eD E1) vwCl (wd true E1 σ) H → va_P (eD E2) vwCl (wd false E2 τ) H → va_S (fun q => s.heap.size ≤ q) s.heap H locs → W p l e room_1 s m #[Value.ref b] below meth c H locs cells slots Q (F0 m 1264 ls []))) : W p l e room_1 s m #[Value.ref b] below meth c H locs cells slots Q (F0 m 650 ls []) := by
  obtain ⟨S, hXs, hbl, ⟨hK1, hK2⟩, hX, ⟨hj1, hj2⟩, hdis, hin1, hin2⟩ := C
  have hbA : ¬ (fun q : Nat => s.heap.size ≤ q) b := Nat.not_le.mpr hbl
  obtain ⟨hx, hb, hml, hown, hts⟩ := id S
  refine lv_aload_n hx hb dL_law_650 rfl (lv_at hl 1 rfl) ?_
  refine lv_aload_n hx hb dL_law_651 rfl (lv_at hl 0 rfl) ?_
  refine lv_iload_n hx hb dL_law_652 rfl (lv_at hl 3 rfl) ?_
  refine lv_iconst (v := 1) hx hb dL_law_653 (by decide) ?_
  refine lv_iadd hx hb dL_law_654 ?_
  refine va_sld hx hb hXs hbl hbA hS h1 dL_law_655 ?_
  obtain ⟨r, τ1, hc, hm, hR1⟩ := hop σ τ (xs (x3 + 1).toNatClampNeg) hRel
  refine w_call (z := true) (zo := false) (E' := E2) (n := 1) (As := [.int (xs (x3 + 1).toNatClampNeg)]) (rest := []) S hK1 hX hdis hin1 (c_fX10_arms hj1 σ H.size (xs (x3 + 1).toNatClampNeg) hc) oC_0 rfl gv_RL_77 (by decide +kernel) ⟨rfl, rfl, by decide, by decide⟩ rfl rfl (Nat.le_of_ble_eq_true rfl) dL_law_656 hcs hP hPm hS hl.1 (fun H locs hP hPm hS => ?_)
  refine lv_aload_n hx hb dL_law_659 rfl (lv_at hl 2 rfl) ?_
  refine lv_aload_n hx hb dL_law_660 rfl (lv_at hl 0 rfl) ?_
  refine lv_iload_n hx hb dL_law_661 rfl (lv_at hl 3 rfl) ?_
  refine lv_iconst (v := 1) hx hb dL_law_662 (by decide) ?_
  refine lv_iadd hx hb dL_law_663 ?_
  refine va_sld hx hb hXs hbl hbA hS h1 dL_law_664 ?_
  refine w_call (z := false) (zo := true) (E' := E1) (n := 1) (As := [.int (xs (x3 + 1).toNatClampNeg)]) (rest := [.int r]) S hK2 trivial (fun i j hi hj => (hdis j i hj hi).symm) hin2 (c_fX11_arms hj2 τ H.size (xs (x3 + 1).toNatClampNeg) hm) oM_0 rfl gv_RL_80 (by decide +kernel) ⟨rfl, rfl, by decide, by decide⟩ rfl rfl (Nat.le_of_ble_eq_true rfl) dL_law_665 hcs hPm hP hS hl.1 (fun H locs hPm hP hS => ?_)
  exact lv_icmp_eq (tgt := 1264) hx hb dL_law_668 (by decide) (fun _ => hnx σ τ1 H locs hR1 hP hPm hS) (fun c2 => absurd rfl c2)
def op_15 (Rel : St → St → Prop) : Prop := ∀ (σ τ : St) (a0 a1 a2 a3 a4 : Int32), Rel σ τ → ∃ r σ1 τ1, fX10_told σ a0 a1 a2 a3 a4 = some (r, σ1) ∧ fX11_told τ a0 a1 a2 a3 a4 = some (r, τ1) ∧ Rel σ1 τ1
set_option maxHeartbeats 4000000 in
theorem lc_15 (Rel : St → St → Prop) (hop : op_15 Rel) {p : Program} {l : Launch} {e : Env} {s : State} {m : MethodId} {below : List Frame} {meth : Method} {c : Code} {E1 E2 : Ev} {b L : Nat} {xs : Nat → Int32} {cells slots : Nat} {Q : State → Prop} (C : LC E1 E2 p s m c b L xs) (hcs : cells ≤ room_1.cells ∧ slots ≤ room_1.slots) (x3 : Int32) (h1 : vp_in (x3 + 1) L) (h2 : vp_in (x3 + 2) L) (h3 : vp_in (x3 + 3) L) (h4 : vp_in (x3 + 4) L) (h5 : vp_in (x3 + 5) L) (σ τ : St) (hRel : Rel σ τ) (H : Heap) (locs : List Loc) (ls : Array Slot) (hP : va_P (eD E1) vwCl (wd true E1 σ) H) (hPm : va_P (eD E2) vwCl (wd false E2 τ) H) (hS : va_S (fun q => s.heap.size ≤ q) s.heap H locs) (hl : lv_has ls 4 [(0, .ref b), (1, .ref (ea E1 0)), (2, .ref (ea E2 0)), (3, .int x3)]) (hnx : (∀ (σ τ : St) (H : Heap) (locs : List Loc), Rel σ τ → va_P (eD E1) vwCl (wd true E1 σ) H → va_P (eD E2) vwCl (wd false E2 τ) H → va_S (fun q => s.heap.size ≤ q) s.heap H locs → W p l e room_1 s m #[Value.ref b] below meth c H locs cells slots Q (F0 m 1264 ls []))) : W p l e room_1 s m #[Value.ref b] below meth c H locs cells slots Q (F0 m 673 ls []) := by
  obtain ⟨S, hXs, hbl, ⟨hK1, hK2⟩, hX, ⟨hj1, hj2⟩, hdis, hin1, hin2⟩ := C
  have hbA : ¬ (fun q : Nat => s.heap.size ≤ q) b := Nat.not_le.mpr hbl
  obtain ⟨hx, hb, hml, hown, hts⟩ := id S
  refine lv_aload_n hx hb dL_law_673 rfl (lv_at hl 1 rfl) ?_
  refine lv_aload_n hx hb dL_law_674 rfl (lv_at hl 0 rfl) ?_
  refine lv_iload_n hx hb dL_law_675 rfl (lv_at hl 3 rfl) ?_
  refine lv_iconst (v := 1) hx hb dL_law_676 (by decide) ?_
  refine lv_iadd hx hb dL_law_677 ?_
  refine va_sld hx hb hXs hbl hbA hS h1 dL_law_678 ?_
  refine lv_aload_n hx hb dL_law_679 rfl (lv_at hl 0 rfl) ?_
  refine lv_iload_n hx hb dL_law_680 rfl (lv_at hl 3 rfl) ?_
  refine lv_iconst (v := 2) hx hb dL_law_681 (by decide) ?_
  refine lv_iadd hx hb dL_law_682 ?_
  refine va_sld hx hb hXs hbl hbA hS h2 dL_law_683 ?_
  refine lv_aload_n hx hb dL_law_684 rfl (lv_at hl 0 rfl) ?_
  refine lv_iload_n hx hb dL_law_685 rfl (lv_at hl 3 rfl) ?_
  refine lv_iconst (v := 3) hx hb dL_law_686 (by decide) ?_
  refine lv_iadd hx hb dL_law_687 ?_
  refine va_sld hx hb hXs hbl hbA hS h3 dL_law_688 ?_
  refine lv_aload_n hx hb dL_law_689 rfl (lv_at hl 0 rfl) ?_
  refine lv_iload_n hx hb dL_law_690 rfl (lv_at hl 3 rfl) ?_
  refine lv_iconst (v := 4) hx hb dL_law_691 (by decide) ?_
  refine lv_iadd hx hb dL_law_692 ?_
  refine va_sld hx hb hXs hbl hbA hS h4 dL_law_693 ?_
  refine lv_aload_n hx hb dL_law_694 rfl (lv_at hl 0 rfl) ?_
  refine lv_iload_n hx hb dL_law_695 rfl (lv_at hl 3 rfl) ?_
  refine lv_iconst (v := 5) hx hb dL_law_696 (by decide) ?_
  refine lv_iadd hx hb dL_law_697 ?_
  refine va_sld hx hb hXs hbl hbA hS h5 dL_law_698 ?_
  obtain ⟨r, σ1, τ1, hc, hm, hR1⟩ := hop σ τ (xs (x3 + 1).toNatClampNeg) (xs (x3 + 2).toNatClampNeg) (xs (x3 + 3).toNatClampNeg) (xs (x3 + 4).toNatClampNeg) (xs (x3 + 5).toNatClampNeg) hRel
  refine w_call (z := true) (zo := false) (E' := E2) (n := 5) (As := [.int (xs (x3 + 1).toNatClampNeg), .int (xs (x3 + 2).toNatClampNeg), .int (xs (x3 + 3).toNatClampNeg), .int (xs (x3 + 4).toNatClampNeg), .int (xs (x3 + 5).toNatClampNeg)]) (rest := []) S hK1 hX hdis hin1 (c_fX10_told hj1 σ H.size (xs (x3 + 1).toNatClampNeg) (xs (x3 + 2).toNatClampNeg) (xs (x3 + 3).toNatClampNeg) (xs (x3 + 4).toNatClampNeg) (xs (x3 + 5).toNatClampNeg) hc) oC_0 rfl gv_RL_81 (by decide +kernel) ⟨rfl, rfl, by decide, by decide⟩ rfl rfl (Nat.le_of_ble_eq_true rfl) dL_law_699 hcs hP hPm hS hl.1 (fun H locs hP hPm hS => ?_)
  refine lv_aload_n hx hb dL_law_702 rfl (lv_at hl 2 rfl) ?_
  refine lv_aload_n hx hb dL_law_703 rfl (lv_at hl 0 rfl) ?_
  refine lv_iload_n hx hb dL_law_704 rfl (lv_at hl 3 rfl) ?_
  refine lv_iconst (v := 1) hx hb dL_law_705 (by decide) ?_
  refine lv_iadd hx hb dL_law_706 ?_
  refine va_sld hx hb hXs hbl hbA hS h1 dL_law_707 ?_
  refine lv_aload_n hx hb dL_law_708 rfl (lv_at hl 0 rfl) ?_
  refine lv_iload_n hx hb dL_law_709 rfl (lv_at hl 3 rfl) ?_
  refine lv_iconst (v := 2) hx hb dL_law_710 (by decide) ?_
  refine lv_iadd hx hb dL_law_711 ?_
  refine va_sld hx hb hXs hbl hbA hS h2 dL_law_712 ?_
  refine lv_aload_n hx hb dL_law_713 rfl (lv_at hl 0 rfl) ?_
  refine lv_iload_n hx hb dL_law_714 rfl (lv_at hl 3 rfl) ?_
  refine lv_iconst (v := 3) hx hb dL_law_715 (by decide) ?_
  refine lv_iadd hx hb dL_law_716 ?_
  refine va_sld hx hb hXs hbl hbA hS h3 dL_law_717 ?_
  refine lv_aload_n hx hb dL_law_718 rfl (lv_at hl 0 rfl) ?_
  refine lv_iload_n hx hb dL_law_719 rfl (lv_at hl 3 rfl) ?_
  refine lv_iconst (v := 4) hx hb dL_law_720 (by decide) ?_
  refine lv_iadd hx hb dL_law_721 ?_
  refine va_sld hx hb hXs hbl hbA hS h4 dL_law_722 ?_
  refine lv_aload_n hx hb dL_law_723 rfl (lv_at hl 0 rfl) ?_
  refine lv_iload_n hx hb dL_law_724 rfl (lv_at hl 3 rfl) ?_
  refine lv_iconst (v := 5) hx hb dL_law_725 (by decide) ?_
  refine lv_iadd hx hb dL_law_726 ?_
  refine va_sld hx hb hXs hbl hbA hS h5 dL_law_727 ?_
  refine w_call (z := false) (zo := true) (E' := E1) (n := 5) (As := [.int (xs (x3 + 1).toNatClampNeg), .int (xs (x3 + 2).toNatClampNeg), .int (xs (x3 + 3).toNatClampNeg), .int (xs (x3 + 4).toNatClampNeg), .int (xs (x3 + 5).toNatClampNeg)]) (rest := [.int r]) S hK2 trivial (fun i j hi hj => (hdis j i hj hi).symm) hin2 (c_fX11_told hj2 τ H.size (xs (x3 + 1).toNatClampNeg) (xs (x3 + 2).toNatClampNeg) (xs (x3 + 3).toNatClampNeg) (xs (x3 + 4).toNatClampNeg) (xs (x3 + 5).toNatClampNeg) hm) oM_0 rfl gv_RL_84 (by decide +kernel) ⟨rfl, rfl, by decide, by decide⟩ rfl rfl (Nat.le_of_ble_eq_true rfl) dL_law_728 hcs hPm hP hS hl.1 (fun H locs hPm hP hS => ?_)
  exact lv_icmp_eq (tgt := 1264) hx hb dL_law_731 (by decide) (fun _ => hnx σ1 τ1 H locs hR1 hP hPm hS) (fun c2 => absurd rfl c2)
def op_16 (Rel : St → St → Prop) : Prop := ∀ (σ τ : St) (a0 a1 : Int32), Rel σ τ → ∃ r τ1, fX10_split a0 a1 = some r ∧ fX11_split τ a0 a1 = some (r, τ1) ∧ Rel σ τ1
set_option maxHeartbeats 4000000 in
theorem lc_16 (Rel : St → St → Prop) (hop : op_16 Rel) {p : Program} {l : Launch} {e : Env} {s : State} {m : MethodId} {below : List Frame} {meth : Method} {c : Code} {E1 E2 : Ev} {b L : Nat} {xs : Nat → Int32} {cells slots : Nat} {Q : State → Prop} (C : LC E1 E2 p s m c b L xs) (hcs : cells ≤ room_1.cells ∧ slots ≤ room_1.slots) (x3 : Int32) (h1 : vp_in (x3 + 1) L) (h2 : vp_in (x3 + 2) L) (h3 : vp_in (x3 + 3) L) (h4 : vp_in (x3 + 4) L) (h5 : vp_in (x3 + 5) L) (σ τ : St) (hRel : Rel σ τ) (H : Heap) (locs : List Loc) (ls : Array Slot) (hP : va_P (eD E1) vwCl (wd true E1 σ) H) (hPm : va_P (eD E2) vwCl (wd false E2 τ) H) (hS : va_S (fun q => s.heap.size ≤ q) s.heap H locs) (hl : lv_has ls 4 [(0, .ref b), (1, .ref (ea E1 0)), (2, .ref (ea E2 0)), (3, .int x3)]) (hnx : (∀ (σ τ : St) (H : Heap) (locs : List Loc), Rel σ τ → va_P (eD E1) vwCl (wd true E1 σ) H → va_P (eD E2) vwCl (wd false E2 τ) H → va_S (fun q => s.heap.size ≤ q) s.heap H locs → W p l e room_1 s m #[Value.ref b] below meth c H locs cells slots Q (F0 m 1264 ls []))) : W p l e room_1 s m #[Value.ref b] below meth c H locs cells slots Q (F0 m 736 ls []) := by
  obtain ⟨S, hXs, hbl, ⟨hK1, hK2⟩, hX, ⟨hj1, hj2⟩, hdis, hin1, hin2⟩ := C
  have hbA : ¬ (fun q : Nat => s.heap.size ≤ q) b := Nat.not_le.mpr hbl
  obtain ⟨hx, hb, hml, hown, hts⟩ := id S
  refine lv_aload_n hx hb dL_law_736 rfl (lv_at hl 1 rfl) ?_
  refine lv_aload_n hx hb dL_law_737 rfl (lv_at hl 0 rfl) ?_
  refine lv_iload_n hx hb dL_law_738 rfl (lv_at hl 3 rfl) ?_
  refine lv_iconst (v := 1) hx hb dL_law_739 (by decide) ?_
  refine lv_iadd hx hb dL_law_740 ?_
  refine va_sld hx hb hXs hbl hbA hS h1 dL_law_741 ?_
  refine lv_aload_n hx hb dL_law_742 rfl (lv_at hl 0 rfl) ?_
  refine lv_iload_n hx hb dL_law_743 rfl (lv_at hl 3 rfl) ?_
  refine lv_iconst (v := 2) hx hb dL_law_744 (by decide) ?_
  refine lv_iadd hx hb dL_law_745 ?_
  refine va_sld hx hb hXs hbl hbA hS h2 dL_law_746 ?_
  obtain ⟨r, τ1, hc, hm, hR1⟩ := hop σ τ (xs (x3 + 1).toNatClampNeg) (xs (x3 + 2).toNatClampNeg) hRel
  refine w_call (z := true) (zo := false) (E' := E2) (n := 2) (As := [.int (xs (x3 + 1).toNatClampNeg), .int (xs (x3 + 2).toNatClampNeg)]) (rest := []) S hK1 hX hdis hin1 (c_fX10_split hj1 σ H.size (xs (x3 + 1).toNatClampNeg) (xs (x3 + 2).toNatClampNeg) hc) oC_0 rfl gv_RL_85 (by decide +kernel) ⟨rfl, rfl, by decide, by decide⟩ rfl rfl (Nat.le_of_ble_eq_true rfl) dL_law_747 hcs hP hPm hS hl.1 (fun H locs hP hPm hS => ?_)
  refine lv_aload_n hx hb dL_law_750 rfl (lv_at hl 2 rfl) ?_
  refine lv_aload_n hx hb dL_law_751 rfl (lv_at hl 0 rfl) ?_
  refine lv_iload_n hx hb dL_law_752 rfl (lv_at hl 3 rfl) ?_
  refine lv_iconst (v := 1) hx hb dL_law_753 (by decide) ?_
  refine lv_iadd hx hb dL_law_754 ?_
  refine va_sld hx hb hXs hbl hbA hS h1 dL_law_755 ?_
  refine lv_aload_n hx hb dL_law_756 rfl (lv_at hl 0 rfl) ?_
  refine lv_iload_n hx hb dL_law_757 rfl (lv_at hl 3 rfl) ?_
  refine lv_iconst (v := 2) hx hb dL_law_758 (by decide) ?_
  refine lv_iadd hx hb dL_law_759 ?_
  refine va_sld hx hb hXs hbl hbA hS h2 dL_law_760 ?_
  refine w_call (z := false) (zo := true) (E' := E1) (n := 2) (As := [.int (xs (x3 + 1).toNatClampNeg), .int (xs (x3 + 2).toNatClampNeg)]) (rest := [.int r]) S hK2 trivial (fun i j hi hj => (hdis j i hj hi).symm) hin2 (c_fX11_split hj2 τ H.size (xs (x3 + 1).toNatClampNeg) (xs (x3 + 2).toNatClampNeg) hm) oM_0 rfl gv_RL_89 (by decide +kernel) ⟨rfl, rfl, by decide, by decide⟩ rfl rfl (Nat.le_of_ble_eq_true rfl) dL_law_761 hcs hPm hP hS hl.1 (fun H locs hPm hP hS => ?_)
  exact lv_icmp_eq (tgt := 1264) hx hb dL_law_764 (by decide) (fun _ => hnx σ τ1 H locs hR1 hP hPm hS) (fun c2 => absurd rfl c2)
def op_17 (Rel : St → St → Prop) : Prop := ∀ (σ τ : St) (a0 a1 a2 : Int32), Rel σ τ → ∃ r σ1 τ1, fX10_can σ a0 a1 a2 = some (r, σ1) ∧ fX11_can τ a0 a1 a2 = some (r, τ1) ∧ Rel σ1 τ1
set_option maxHeartbeats 4000000 in
theorem lc_17 (Rel : St → St → Prop) (hop : op_17 Rel) {p : Program} {l : Launch} {e : Env} {s : State} {m : MethodId} {below : List Frame} {meth : Method} {c : Code} {E1 E2 : Ev} {b L : Nat} {xs : Nat → Int32} {cells slots : Nat} {Q : State → Prop} (C : LC E1 E2 p s m c b L xs) (hcs : cells ≤ room_1.cells ∧ slots ≤ room_1.slots) (x3 : Int32) (h1 : vp_in (x3 + 1) L) (h2 : vp_in (x3 + 2) L) (h3 : vp_in (x3 + 3) L) (h4 : vp_in (x3 + 4) L) (h5 : vp_in (x3 + 5) L) (σ τ : St) (hRel : Rel σ τ) (H : Heap) (locs : List Loc) (ls : Array Slot) (hP : va_P (eD E1) vwCl (wd true E1 σ) H) (hPm : va_P (eD E2) vwCl (wd false E2 τ) H) (hS : va_S (fun q => s.heap.size ≤ q) s.heap H locs) (hl : lv_has ls 4 [(0, .ref b), (1, .ref (ea E1 0)), (2, .ref (ea E2 0)), (3, .int x3)]) (hnx : (∀ (σ τ : St) (H : Heap) (locs : List Loc), Rel σ τ → va_P (eD E1) vwCl (wd true E1 σ) H → va_P (eD E2) vwCl (wd false E2 τ) H → va_S (fun q => s.heap.size ≤ q) s.heap H locs → W p l e room_1 s m #[Value.ref b] below meth c H locs cells slots Q (F0 m 1264 ls []))) : W p l e room_1 s m #[Value.ref b] below meth c H locs cells slots Q (F0 m 769 ls []) := by
  obtain ⟨S, hXs, hbl, ⟨hK1, hK2⟩, hX, ⟨hj1, hj2⟩, hdis, hin1, hin2⟩ := C
  have hbA : ¬ (fun q : Nat => s.heap.size ≤ q) b := Nat.not_le.mpr hbl
  obtain ⟨hx, hb, hml, hown, hts⟩ := id S
  refine lv_aload_n hx hb dL_law_769 rfl (lv_at hl 1 rfl) ?_
  refine lv_aload_n hx hb dL_law_770 rfl (lv_at hl 0 rfl) ?_
  refine lv_iload_n hx hb dL_law_771 rfl (lv_at hl 3 rfl) ?_
  refine lv_iconst (v := 1) hx hb dL_law_772 (by decide) ?_
  refine lv_iadd hx hb dL_law_773 ?_
  refine va_sld hx hb hXs hbl hbA hS h1 dL_law_774 ?_
  refine lv_aload_n hx hb dL_law_775 rfl (lv_at hl 0 rfl) ?_
  refine lv_iload_n hx hb dL_law_776 rfl (lv_at hl 3 rfl) ?_
  refine lv_iconst (v := 2) hx hb dL_law_777 (by decide) ?_
  refine lv_iadd hx hb dL_law_778 ?_
  refine va_sld hx hb hXs hbl hbA hS h2 dL_law_779 ?_
  refine lv_aload_n hx hb dL_law_780 rfl (lv_at hl 0 rfl) ?_
  refine lv_iload_n hx hb dL_law_781 rfl (lv_at hl 3 rfl) ?_
  refine lv_iconst (v := 3) hx hb dL_law_782 (by decide) ?_
  refine lv_iadd hx hb dL_law_783 ?_
  refine va_sld hx hb hXs hbl hbA hS h3 dL_law_784 ?_
  obtain ⟨r, σ1, τ1, hc, hm, hR1⟩ := hop σ τ (xs (x3 + 1).toNatClampNeg) (xs (x3 + 2).toNatClampNeg) (xs (x3 + 3).toNatClampNeg) hRel
  refine w_call (z := true) (zo := false) (E' := E2) (n := 3) (As := [.int (xs (x3 + 1).toNatClampNeg), .int (xs (x3 + 2).toNatClampNeg), .int (xs (x3 + 3).toNatClampNeg)]) (rest := []) S hK1 hX hdis hin1 (c_fX10_can hj1 σ H.size (xs (x3 + 1).toNatClampNeg) (xs (x3 + 2).toNatClampNeg) (xs (x3 + 3).toNatClampNeg) hc) oC_0 rfl gv_RL_90 (by decide +kernel) ⟨rfl, rfl, by decide, by decide⟩ rfl rfl (Nat.le_of_ble_eq_true rfl) dL_law_785 hcs hP hPm hS hl.1 (fun H locs hP hPm hS => ?_)
  refine lv_aload_n hx hb dL_law_788 rfl (lv_at hl 2 rfl) ?_
  refine lv_aload_n hx hb dL_law_789 rfl (lv_at hl 0 rfl) ?_
  refine lv_iload_n hx hb dL_law_790 rfl (lv_at hl 3 rfl) ?_
  refine lv_iconst (v := 1) hx hb dL_law_791 (by decide) ?_
  refine lv_iadd hx hb dL_law_792 ?_
  refine va_sld hx hb hXs hbl hbA hS h1 dL_law_793 ?_
  refine lv_aload_n hx hb dL_law_794 rfl (lv_at hl 0 rfl) ?_
  refine lv_iload_n hx hb dL_law_795 rfl (lv_at hl 3 rfl) ?_
  refine lv_iconst (v := 2) hx hb dL_law_796 (by decide) ?_
  refine lv_iadd hx hb dL_law_797 ?_
  refine va_sld hx hb hXs hbl hbA hS h2 dL_law_798 ?_
  refine lv_aload_n hx hb dL_law_799 rfl (lv_at hl 0 rfl) ?_
  refine lv_iload_n hx hb dL_law_800 rfl (lv_at hl 3 rfl) ?_
  refine lv_iconst (v := 3) hx hb dL_law_801 (by decide) ?_
  refine lv_iadd hx hb dL_law_802 ?_
  refine va_sld hx hb hXs hbl hbA hS h3 dL_law_803 ?_
  refine w_call (z := false) (zo := true) (E' := E1) (n := 3) (As := [.int (xs (x3 + 1).toNatClampNeg), .int (xs (x3 + 2).toNatClampNeg), .int (xs (x3 + 3).toNatClampNeg)]) (rest := [.int r]) S hK2 trivial (fun i j hi hj => (hdis j i hj hi).symm) hin2 (c_fX11_can hj2 τ H.size (xs (x3 + 1).toNatClampNeg) (xs (x3 + 2).toNatClampNeg) (xs (x3 + 3).toNatClampNeg) hm) oM_0 rfl gv_RL_94 (by decide +kernel) ⟨rfl, rfl, by decide, by decide⟩ rfl rfl (Nat.le_of_ble_eq_true rfl) dL_law_804 hcs hPm hP hS hl.1 (fun H locs hPm hP hS => ?_)
  exact lv_icmp_eq (tgt := 1264) hx hb dL_law_807 (by decide) (fun _ => hnx σ1 τ1 H locs hR1 hP hPm hS) (fun c2 => absurd rfl c2)
def op_18 (Rel : St → St → Prop) : Prop := ∀ (σ τ : St) (a0 : Int32), Rel σ τ → ∃ r σ1 τ1, fX10_step σ a0 = some (r, σ1) ∧ fX11_step τ a0 = some (r, τ1) ∧ Rel σ1 τ1
set_option maxHeartbeats 4000000 in
theorem lc_18 (Rel : St → St → Prop) (hop : op_18 Rel) {p : Program} {l : Launch} {e : Env} {s : State} {m : MethodId} {below : List Frame} {meth : Method} {c : Code} {E1 E2 : Ev} {b L : Nat} {xs : Nat → Int32} {cells slots : Nat} {Q : State → Prop} (C : LC E1 E2 p s m c b L xs) (hcs : cells ≤ room_1.cells ∧ slots ≤ room_1.slots) (x3 : Int32) (h1 : vp_in (x3 + 1) L) (h2 : vp_in (x3 + 2) L) (h3 : vp_in (x3 + 3) L) (h4 : vp_in (x3 + 4) L) (h5 : vp_in (x3 + 5) L) (σ τ : St) (hRel : Rel σ τ) (H : Heap) (locs : List Loc) (ls : Array Slot) (hP : va_P (eD E1) vwCl (wd true E1 σ) H) (hPm : va_P (eD E2) vwCl (wd false E2 τ) H) (hS : va_S (fun q => s.heap.size ≤ q) s.heap H locs) (hl : lv_has ls 4 [(0, .ref b), (1, .ref (ea E1 0)), (2, .ref (ea E2 0)), (3, .int x3)]) (hnx : (∀ (σ τ : St) (H : Heap) (locs : List Loc), Rel σ τ → va_P (eD E1) vwCl (wd true E1 σ) H → va_P (eD E2) vwCl (wd false E2 τ) H → va_S (fun q => s.heap.size ≤ q) s.heap H locs → W p l e room_1 s m #[Value.ref b] below meth c H locs cells slots Q (F0 m 1264 ls []))) : W p l e room_1 s m #[Value.ref b] below meth c H locs cells slots Q (F0 m 812 ls []) := by
  obtain ⟨S, hXs, hbl, ⟨hK1, hK2⟩, hX, ⟨hj1, hj2⟩, hdis, hin1, hin2⟩ := C
  have hbA : ¬ (fun q : Nat => s.heap.size ≤ q) b := Nat.not_le.mpr hbl
  obtain ⟨hx, hb, hml, hown, hts⟩ := id S
  refine lv_aload_n hx hb dL_law_812 rfl (lv_at hl 1 rfl) ?_
  refine lv_aload_n hx hb dL_law_813 rfl (lv_at hl 0 rfl) ?_
  refine lv_iload_n hx hb dL_law_814 rfl (lv_at hl 3 rfl) ?_
  refine lv_iconst (v := 1) hx hb dL_law_815 (by decide) ?_
  refine lv_iadd hx hb dL_law_816 ?_
  refine va_sld hx hb hXs hbl hbA hS h1 dL_law_817 ?_
  obtain ⟨r, σ1, τ1, hc, hm, hR1⟩ := hop σ τ (xs (x3 + 1).toNatClampNeg) hRel
  refine w_call (z := true) (zo := false) (E' := E2) (n := 1) (As := [.int (xs (x3 + 1).toNatClampNeg)]) (rest := []) S hK1 hX hdis hin1 (c_fX10_step hj1 σ H.size (xs (x3 + 1).toNatClampNeg) hc) oC_0 rfl gv_RL_95 (by decide +kernel) ⟨rfl, rfl, by decide, by decide⟩ rfl rfl (Nat.le_of_ble_eq_true rfl) dL_law_818 hcs hP hPm hS hl.1 (fun H locs hP hPm hS => ?_)
  refine lv_aload_n hx hb dL_law_821 rfl (lv_at hl 2 rfl) ?_
  refine lv_aload_n hx hb dL_law_822 rfl (lv_at hl 0 rfl) ?_
  refine lv_iload_n hx hb dL_law_823 rfl (lv_at hl 3 rfl) ?_
  refine lv_iconst (v := 1) hx hb dL_law_824 (by decide) ?_
  refine lv_iadd hx hb dL_law_825 ?_
  refine va_sld hx hb hXs hbl hbA hS h1 dL_law_826 ?_
  refine w_call (z := false) (zo := true) (E' := E1) (n := 1) (As := [.int (xs (x3 + 1).toNatClampNeg)]) (rest := [.int r]) S hK2 trivial (fun i j hi hj => (hdis j i hj hi).symm) hin2 (c_fX11_step hj2 τ H.size (xs (x3 + 1).toNatClampNeg) hm) oM_0 rfl gv_RL_98 (by decide +kernel) ⟨rfl, rfl, by decide, by decide⟩ rfl rfl (Nat.le_of_ble_eq_true rfl) dL_law_827 hcs hPm hP hS hl.1 (fun H locs hPm hP hS => ?_)
  exact lv_icmp_eq (tgt := 1264) hx hb dL_law_830 (by decide) (fun _ => hnx σ1 τ1 H locs hR1 hP hPm hS) (fun c2 => absurd rfl c2)
def op_19 (Rel : St → St → Prop) : Prop := ∀ (σ τ : St) (a0 a1 a2 a3 a4 : Int32), Rel σ τ → ∃ r τ1, fX10_span σ a0 a1 a2 a3 a4 = some r ∧ fX11_span τ a0 a1 a2 a3 a4 = some (r, τ1) ∧ Rel σ τ1
set_option maxHeartbeats 4000000 in
theorem lc_19 (Rel : St → St → Prop) (hop : op_19 Rel) {p : Program} {l : Launch} {e : Env} {s : State} {m : MethodId} {below : List Frame} {meth : Method} {c : Code} {E1 E2 : Ev} {b L : Nat} {xs : Nat → Int32} {cells slots : Nat} {Q : State → Prop} (C : LC E1 E2 p s m c b L xs) (hcs : cells ≤ room_1.cells ∧ slots ≤ room_1.slots) (x3 : Int32) (h1 : vp_in (x3 + 1) L) (h2 : vp_in (x3 + 2) L) (h3 : vp_in (x3 + 3) L) (h4 : vp_in (x3 + 4) L) (h5 : vp_in (x3 + 5) L) (σ τ : St) (hRel : Rel σ τ) (H : Heap) (locs : List Loc) (ls : Array Slot) (hP : va_P (eD E1) vwCl (wd true E1 σ) H) (hPm : va_P (eD E2) vwCl (wd false E2 τ) H) (hS : va_S (fun q => s.heap.size ≤ q) s.heap H locs) (hl : lv_has ls 4 [(0, .ref b), (1, .ref (ea E1 0)), (2, .ref (ea E2 0)), (3, .int x3)]) (hnx : (∀ (σ τ : St) (H : Heap) (locs : List Loc), Rel σ τ → va_P (eD E1) vwCl (wd true E1 σ) H → va_P (eD E2) vwCl (wd false E2 τ) H → va_S (fun q => s.heap.size ≤ q) s.heap H locs → W p l e room_1 s m #[Value.ref b] below meth c H locs cells slots Q (F0 m 1264 ls []))) : W p l e room_1 s m #[Value.ref b] below meth c H locs cells slots Q (F0 m 835 ls []) := by
  obtain ⟨S, hXs, hbl, ⟨hK1, hK2⟩, hX, ⟨hj1, hj2⟩, hdis, hin1, hin2⟩ := C
  have hbA : ¬ (fun q : Nat => s.heap.size ≤ q) b := Nat.not_le.mpr hbl
  obtain ⟨hx, hb, hml, hown, hts⟩ := id S
  refine lv_aload_n hx hb dL_law_835 rfl (lv_at hl 1 rfl) ?_
  refine lv_aload_n hx hb dL_law_836 rfl (lv_at hl 0 rfl) ?_
  refine lv_iload_n hx hb dL_law_837 rfl (lv_at hl 3 rfl) ?_
  refine lv_iconst (v := 1) hx hb dL_law_838 (by decide) ?_
  refine lv_iadd hx hb dL_law_839 ?_
  refine va_sld hx hb hXs hbl hbA hS h1 dL_law_840 ?_
  refine lv_aload_n hx hb dL_law_841 rfl (lv_at hl 0 rfl) ?_
  refine lv_iload_n hx hb dL_law_842 rfl (lv_at hl 3 rfl) ?_
  refine lv_iconst (v := 2) hx hb dL_law_843 (by decide) ?_
  refine lv_iadd hx hb dL_law_844 ?_
  refine va_sld hx hb hXs hbl hbA hS h2 dL_law_845 ?_
  refine lv_aload_n hx hb dL_law_846 rfl (lv_at hl 0 rfl) ?_
  refine lv_iload_n hx hb dL_law_847 rfl (lv_at hl 3 rfl) ?_
  refine lv_iconst (v := 3) hx hb dL_law_848 (by decide) ?_
  refine lv_iadd hx hb dL_law_849 ?_
  refine va_sld hx hb hXs hbl hbA hS h3 dL_law_850 ?_
  refine lv_aload_n hx hb dL_law_851 rfl (lv_at hl 0 rfl) ?_
  refine lv_iload_n hx hb dL_law_852 rfl (lv_at hl 3 rfl) ?_
  refine lv_iconst (v := 4) hx hb dL_law_853 (by decide) ?_
  refine lv_iadd hx hb dL_law_854 ?_
  refine va_sld hx hb hXs hbl hbA hS h4 dL_law_855 ?_
  refine lv_aload_n hx hb dL_law_856 rfl (lv_at hl 0 rfl) ?_
  refine lv_iload_n hx hb dL_law_857 rfl (lv_at hl 3 rfl) ?_
  refine lv_iconst (v := 5) hx hb dL_law_858 (by decide) ?_
  refine lv_iadd hx hb dL_law_859 ?_
  refine va_sld hx hb hXs hbl hbA hS h5 dL_law_860 ?_
  obtain ⟨r, τ1, hc, hm, hR1⟩ := hop σ τ (xs (x3 + 1).toNatClampNeg) (xs (x3 + 2).toNatClampNeg) (xs (x3 + 3).toNatClampNeg) (xs (x3 + 4).toNatClampNeg) (xs (x3 + 5).toNatClampNeg) hRel
  refine w_call (z := true) (zo := false) (E' := E2) (n := 5) (As := [.int (xs (x3 + 1).toNatClampNeg), .int (xs (x3 + 2).toNatClampNeg), .int (xs (x3 + 3).toNatClampNeg), .int (xs (x3 + 4).toNatClampNeg), .int (xs (x3 + 5).toNatClampNeg)]) (rest := []) S hK1 hX hdis hin1 (c_fX10_span hj1 σ H.size (xs (x3 + 1).toNatClampNeg) (xs (x3 + 2).toNatClampNeg) (xs (x3 + 3).toNatClampNeg) (xs (x3 + 4).toNatClampNeg) (xs (x3 + 5).toNatClampNeg) hc) oC_0 rfl gv_RL_99 (by decide +kernel) ⟨rfl, rfl, by decide, by decide⟩ rfl rfl (Nat.le_of_ble_eq_true rfl) dL_law_861 hcs hP hPm hS hl.1 (fun H locs hP hPm hS => ?_)
  refine lv_aload_n hx hb dL_law_864 rfl (lv_at hl 2 rfl) ?_
  refine lv_aload_n hx hb dL_law_865 rfl (lv_at hl 0 rfl) ?_
  refine lv_iload_n hx hb dL_law_866 rfl (lv_at hl 3 rfl) ?_
  refine lv_iconst (v := 1) hx hb dL_law_867 (by decide) ?_
  refine lv_iadd hx hb dL_law_868 ?_
  refine va_sld hx hb hXs hbl hbA hS h1 dL_law_869 ?_
  refine lv_aload_n hx hb dL_law_870 rfl (lv_at hl 0 rfl) ?_
  refine lv_iload_n hx hb dL_law_871 rfl (lv_at hl 3 rfl) ?_
  refine lv_iconst (v := 2) hx hb dL_law_872 (by decide) ?_
  refine lv_iadd hx hb dL_law_873 ?_
  refine va_sld hx hb hXs hbl hbA hS h2 dL_law_874 ?_
  refine lv_aload_n hx hb dL_law_875 rfl (lv_at hl 0 rfl) ?_
  refine lv_iload_n hx hb dL_law_876 rfl (lv_at hl 3 rfl) ?_
  refine lv_iconst (v := 3) hx hb dL_law_877 (by decide) ?_
  refine lv_iadd hx hb dL_law_878 ?_
  refine va_sld hx hb hXs hbl hbA hS h3 dL_law_879 ?_
  refine lv_aload_n hx hb dL_law_880 rfl (lv_at hl 0 rfl) ?_
  refine lv_iload_n hx hb dL_law_881 rfl (lv_at hl 3 rfl) ?_
  refine lv_iconst (v := 4) hx hb dL_law_882 (by decide) ?_
  refine lv_iadd hx hb dL_law_883 ?_
  refine va_sld hx hb hXs hbl hbA hS h4 dL_law_884 ?_
  refine lv_aload_n hx hb dL_law_885 rfl (lv_at hl 0 rfl) ?_
  refine lv_iload_n hx hb dL_law_886 rfl (lv_at hl 3 rfl) ?_
  refine lv_iconst (v := 5) hx hb dL_law_887 (by decide) ?_
  refine lv_iadd hx hb dL_law_888 ?_
  refine va_sld hx hb hXs hbl hbA hS h5 dL_law_889 ?_
  refine w_call (z := false) (zo := true) (E' := E1) (n := 5) (As := [.int (xs (x3 + 1).toNatClampNeg), .int (xs (x3 + 2).toNatClampNeg), .int (xs (x3 + 3).toNatClampNeg), .int (xs (x3 + 4).toNatClampNeg), .int (xs (x3 + 5).toNatClampNeg)]) (rest := [.int r]) S hK2 trivial (fun i j hi hj => (hdis j i hj hi).symm) hin2 (c_fX11_span hj2 τ H.size (xs (x3 + 1).toNatClampNeg) (xs (x3 + 2).toNatClampNeg) (xs (x3 + 3).toNatClampNeg) (xs (x3 + 4).toNatClampNeg) (xs (x3 + 5).toNatClampNeg) hm) oM_0 rfl gv_RL_102 (by decide +kernel) ⟨rfl, rfl, by decide, by decide⟩ rfl rfl (Nat.le_of_ble_eq_true rfl) dL_law_890 hcs hPm hP hS hl.1 (fun H locs hPm hP hS => ?_)
  exact lv_icmp_eq (tgt := 1264) hx hb dL_law_893 (by decide) (fun _ => hnx σ τ1 H locs hR1 hP hPm hS) (fun c2 => absurd rfl c2)
def op_20 (Rel : St → St → Prop) : Prop := ∀ (σ τ : St) (a0 a1 : Int32), Rel σ τ → ∃ r τ1, fX10_mean σ a0 a1 = some r ∧ fX11_mean τ a0 a1 = some (r, τ1) ∧ Rel σ τ1
set_option maxHeartbeats 4000000 in
theorem lc_20 (Rel : St → St → Prop) (hop : op_20 Rel) {p : Program} {l : Launch} {e : Env} {s : State} {m : MethodId} {below : List Frame} {meth : Method} {c : Code} {E1 E2 : Ev} {b L : Nat} {xs : Nat → Int32} {cells slots : Nat} {Q : State → Prop} (C : LC E1 E2 p s m c b L xs) (hcs : cells ≤ room_1.cells ∧ slots ≤ room_1.slots) (x3 : Int32) (h1 : vp_in (x3 + 1) L) (h2 : vp_in (x3 + 2) L) (h3 : vp_in (x3 + 3) L) (h4 : vp_in (x3 + 4) L) (h5 : vp_in (x3 + 5) L) (σ τ : St) (hRel : Rel σ τ) (H : Heap) (locs : List Loc) (ls : Array Slot) (hP : va_P (eD E1) vwCl (wd true E1 σ) H) (hPm : va_P (eD E2) vwCl (wd false E2 τ) H) (hS : va_S (fun q => s.heap.size ≤ q) s.heap H locs) (hl : lv_has ls 4 [(0, .ref b), (1, .ref (ea E1 0)), (2, .ref (ea E2 0)), (3, .int x3)]) (hnx : (∀ (σ τ : St) (H : Heap) (locs : List Loc), Rel σ τ → va_P (eD E1) vwCl (wd true E1 σ) H → va_P (eD E2) vwCl (wd false E2 τ) H → va_S (fun q => s.heap.size ≤ q) s.heap H locs → W p l e room_1 s m #[Value.ref b] below meth c H locs cells slots Q (F0 m 1264 ls []))) : W p l e room_1 s m #[Value.ref b] below meth c H locs cells slots Q (F0 m 898 ls []) := by
  obtain ⟨S, hXs, hbl, ⟨hK1, hK2⟩, hX, ⟨hj1, hj2⟩, hdis, hin1, hin2⟩ := C
  have hbA : ¬ (fun q : Nat => s.heap.size ≤ q) b := Nat.not_le.mpr hbl
  obtain ⟨hx, hb, hml, hown, hts⟩ := id S
  refine lv_aload_n hx hb dL_law_898 rfl (lv_at hl 1 rfl) ?_
  refine lv_aload_n hx hb dL_law_899 rfl (lv_at hl 0 rfl) ?_
  refine lv_iload_n hx hb dL_law_900 rfl (lv_at hl 3 rfl) ?_
  refine lv_iconst (v := 1) hx hb dL_law_901 (by decide) ?_
  refine lv_iadd hx hb dL_law_902 ?_
  refine va_sld hx hb hXs hbl hbA hS h1 dL_law_903 ?_
  refine lv_aload_n hx hb dL_law_904 rfl (lv_at hl 0 rfl) ?_
  refine lv_iload_n hx hb dL_law_905 rfl (lv_at hl 3 rfl) ?_
  refine lv_iconst (v := 2) hx hb dL_law_906 (by decide) ?_
  refine lv_iadd hx hb dL_law_907 ?_
  refine va_sld hx hb hXs hbl hbA hS h2 dL_law_908 ?_
  obtain ⟨r, τ1, hc, hm, hR1⟩ := hop σ τ (xs (x3 + 1).toNatClampNeg) (xs (x3 + 2).toNatClampNeg) hRel
  refine w_call (z := true) (zo := false) (E' := E2) (n := 2) (As := [.int (xs (x3 + 1).toNatClampNeg), .int (xs (x3 + 2).toNatClampNeg)]) (rest := []) S hK1 hX hdis hin1 (c_fX10_mean hj1 σ H.size (xs (x3 + 1).toNatClampNeg) (xs (x3 + 2).toNatClampNeg) hc) oC_0 rfl gv_RL_103 (by decide +kernel) ⟨rfl, rfl, by decide, by decide⟩ rfl rfl (Nat.le_of_ble_eq_true rfl) dL_law_909 hcs hP hPm hS hl.1 (fun H locs hP hPm hS => ?_)
  refine lv_aload_n hx hb dL_law_912 rfl (lv_at hl 2 rfl) ?_
  refine lv_aload_n hx hb dL_law_913 rfl (lv_at hl 0 rfl) ?_
  refine lv_iload_n hx hb dL_law_914 rfl (lv_at hl 3 rfl) ?_
  refine lv_iconst (v := 1) hx hb dL_law_915 (by decide) ?_
  refine lv_iadd hx hb dL_law_916 ?_
  refine va_sld hx hb hXs hbl hbA hS h1 dL_law_917 ?_
  refine lv_aload_n hx hb dL_law_918 rfl (lv_at hl 0 rfl) ?_
  refine lv_iload_n hx hb dL_law_919 rfl (lv_at hl 3 rfl) ?_
  refine lv_iconst (v := 2) hx hb dL_law_920 (by decide) ?_
  refine lv_iadd hx hb dL_law_921 ?_
  refine va_sld hx hb hXs hbl hbA hS h2 dL_law_922 ?_
  refine w_call (z := false) (zo := true) (E' := E1) (n := 2) (As := [.int (xs (x3 + 1).toNatClampNeg), .int (xs (x3 + 2).toNatClampNeg)]) (rest := [.int r]) S hK2 trivial (fun i j hi hj => (hdis j i hj hi).symm) hin2 (c_fX11_mean hj2 τ H.size (xs (x3 + 1).toNatClampNeg) (xs (x3 + 2).toNatClampNeg) hm) oM_0 rfl gv_RL_106 (by decide +kernel) ⟨rfl, rfl, by decide, by decide⟩ rfl rfl (Nat.le_of_ble_eq_true rfl) dL_law_923 hcs hPm hP hS hl.1 (fun H locs hPm hP hS => ?_)
  exact lv_icmp_eq (tgt := 1264) hx hb dL_law_926 (by decide) (fun _ => hnx σ τ1 H locs hR1 hP hPm hS) (fun c2 => absurd rfl c2)
def op_21 (Rel : St → St → Prop) : Prop := ∀ (σ τ : St) (a0 : Int32), Rel σ τ → ∃ r σ1 τ1, fX10_paper σ a0 = some (r, σ1) ∧ fX11_paper τ a0 = some (r, τ1) ∧ Rel σ1 τ1
set_option maxHeartbeats 4000000 in
theorem lc_21 (Rel : St → St → Prop) (hop : op_21 Rel) {p : Program} {l : Launch} {e : Env} {s : State} {m : MethodId} {below : List Frame} {meth : Method} {c : Code} {E1 E2 : Ev} {b L : Nat} {xs : Nat → Int32} {cells slots : Nat} {Q : State → Prop} (C : LC E1 E2 p s m c b L xs) (hcs : cells ≤ room_1.cells ∧ slots ≤ room_1.slots) (x3 : Int32) (h1 : vp_in (x3 + 1) L) (h2 : vp_in (x3 + 2) L) (h3 : vp_in (x3 + 3) L) (h4 : vp_in (x3 + 4) L) (h5 : vp_in (x3 + 5) L) (σ τ : St) (hRel : Rel σ τ) (H : Heap) (locs : List Loc) (ls : Array Slot) (hP : va_P (eD E1) vwCl (wd true E1 σ) H) (hPm : va_P (eD E2) vwCl (wd false E2 τ) H) (hS : va_S (fun q => s.heap.size ≤ q) s.heap H locs) (hl : lv_has ls 4 [(0, .ref b), (1, .ref (ea E1 0)), (2, .ref (ea E2 0)), (3, .int x3)]) (hnx : (∀ (σ τ : St) (H : Heap) (locs : List Loc), Rel σ τ → va_P (eD E1) vwCl (wd true E1 σ) H → va_P (eD E2) vwCl (wd false E2 τ) H → va_S (fun q => s.heap.size ≤ q) s.heap H locs → W p l e room_1 s m #[Value.ref b] below meth c H locs cells slots Q (F0 m 1264 ls []))) : W p l e room_1 s m #[Value.ref b] below meth c H locs cells slots Q (F0 m 931 ls []) := by
  obtain ⟨S, hXs, hbl, ⟨hK1, hK2⟩, hX, ⟨hj1, hj2⟩, hdis, hin1, hin2⟩ := C
  have hbA : ¬ (fun q : Nat => s.heap.size ≤ q) b := Nat.not_le.mpr hbl
  obtain ⟨hx, hb, hml, hown, hts⟩ := id S
  refine lv_aload_n hx hb dL_law_931 rfl (lv_at hl 1 rfl) ?_
  refine lv_aload_n hx hb dL_law_932 rfl (lv_at hl 0 rfl) ?_
  refine lv_iload_n hx hb dL_law_933 rfl (lv_at hl 3 rfl) ?_
  refine lv_iconst (v := 1) hx hb dL_law_934 (by decide) ?_
  refine lv_iadd hx hb dL_law_935 ?_
  refine va_sld hx hb hXs hbl hbA hS h1 dL_law_936 ?_
  obtain ⟨r, σ1, τ1, hc, hm, hR1⟩ := hop σ τ (xs (x3 + 1).toNatClampNeg) hRel
  refine w_call (z := true) (zo := false) (E' := E2) (n := 1) (As := [.int (xs (x3 + 1).toNatClampNeg)]) (rest := []) S hK1 hX hdis hin1 (c_fX10_paper hj1 σ H.size (xs (x3 + 1).toNatClampNeg) hc) oC_0 rfl gv_RL_107 (by decide +kernel) ⟨rfl, rfl, by decide, by decide⟩ rfl rfl (Nat.le_of_ble_eq_true rfl) dL_law_937 hcs hP hPm hS hl.1 (fun H locs hP hPm hS => ?_)
  refine lv_aload_n hx hb dL_law_940 rfl (lv_at hl 2 rfl) ?_
  refine lv_aload_n hx hb dL_law_941 rfl (lv_at hl 0 rfl) ?_
  refine lv_iload_n hx hb dL_law_942 rfl (lv_at hl 3 rfl) ?_
  refine lv_iconst (v := 1) hx hb dL_law_943 (by decide) ?_
  refine lv_iadd hx hb dL_law_944 ?_
  refine va_sld hx hb hXs hbl hbA hS h1 dL_law_945 ?_
  refine w_call (z := false) (zo := true) (E' := E1) (n := 1) (As := [.int (xs (x3 + 1).toNatClampNeg)]) (rest := [.int r]) S hK2 trivial (fun i j hi hj => (hdis j i hj hi).symm) hin2 (c_fX11_paper hj2 τ H.size (xs (x3 + 1).toNatClampNeg) hm) oM_0 rfl gv_RL_110 (by decide +kernel) ⟨rfl, rfl, by decide, by decide⟩ rfl rfl (Nat.le_of_ble_eq_true rfl) dL_law_946 hcs hPm hP hS hl.1 (fun H locs hPm hP hS => ?_)
  exact lv_icmp_eq (tgt := 1264) hx hb dL_law_949 (by decide) (fun _ => hnx σ1 τ1 H locs hR1 hP hPm hS) (fun c2 => absurd rfl c2)
def op_22 (Rel : St → St → Prop) : Prop := ∀ (σ τ : St) (a0 a1 a2 a3 : Int32), Rel σ τ → ∃ r σ1 τ1, fX10_place σ a0 a1 a2 a3 = some (r, σ1) ∧ fX11_place τ a0 a1 a2 a3 = some (r, τ1) ∧ Rel σ1 τ1
set_option maxHeartbeats 4000000 in
theorem lc_22 (Rel : St → St → Prop) (hop : op_22 Rel) {p : Program} {l : Launch} {e : Env} {s : State} {m : MethodId} {below : List Frame} {meth : Method} {c : Code} {E1 E2 : Ev} {b L : Nat} {xs : Nat → Int32} {cells slots : Nat} {Q : State → Prop} (C : LC E1 E2 p s m c b L xs) (hcs : cells ≤ room_1.cells ∧ slots ≤ room_1.slots) (x3 : Int32) (h1 : vp_in (x3 + 1) L) (h2 : vp_in (x3 + 2) L) (h3 : vp_in (x3 + 3) L) (h4 : vp_in (x3 + 4) L) (h5 : vp_in (x3 + 5) L) (σ τ : St) (hRel : Rel σ τ) (H : Heap) (locs : List Loc) (ls : Array Slot) (hP : va_P (eD E1) vwCl (wd true E1 σ) H) (hPm : va_P (eD E2) vwCl (wd false E2 τ) H) (hS : va_S (fun q => s.heap.size ≤ q) s.heap H locs) (hl : lv_has ls 4 [(0, .ref b), (1, .ref (ea E1 0)), (2, .ref (ea E2 0)), (3, .int x3)]) (hnx : (∀ (σ τ : St) (H : Heap) (locs : List Loc), Rel σ τ → va_P (eD E1) vwCl (wd true E1 σ) H → va_P (eD E2) vwCl (wd false E2 τ) H → va_S (fun q => s.heap.size ≤ q) s.heap H locs → W p l e room_1 s m #[Value.ref b] below meth c H locs cells slots Q (F0 m 1264 ls []))) : W p l e room_1 s m #[Value.ref b] below meth c H locs cells slots Q (F0 m 954 ls []) := by
  obtain ⟨S, hXs, hbl, ⟨hK1, hK2⟩, hX, ⟨hj1, hj2⟩, hdis, hin1, hin2⟩ := C
  have hbA : ¬ (fun q : Nat => s.heap.size ≤ q) b := Nat.not_le.mpr hbl
  obtain ⟨hx, hb, hml, hown, hts⟩ := id S
  refine lv_aload_n hx hb dL_law_954 rfl (lv_at hl 1 rfl) ?_
  refine lv_aload_n hx hb dL_law_955 rfl (lv_at hl 0 rfl) ?_
  refine lv_iload_n hx hb dL_law_956 rfl (lv_at hl 3 rfl) ?_
  refine lv_iconst (v := 1) hx hb dL_law_957 (by decide) ?_
  refine lv_iadd hx hb dL_law_958 ?_
  refine va_sld hx hb hXs hbl hbA hS h1 dL_law_959 ?_
  refine lv_aload_n hx hb dL_law_960 rfl (lv_at hl 0 rfl) ?_
  refine lv_iload_n hx hb dL_law_961 rfl (lv_at hl 3 rfl) ?_
  refine lv_iconst (v := 2) hx hb dL_law_962 (by decide) ?_
  refine lv_iadd hx hb dL_law_963 ?_
  refine va_sld hx hb hXs hbl hbA hS h2 dL_law_964 ?_
  refine lv_aload_n hx hb dL_law_965 rfl (lv_at hl 0 rfl) ?_
  refine lv_iload_n hx hb dL_law_966 rfl (lv_at hl 3 rfl) ?_
  refine lv_iconst (v := 3) hx hb dL_law_967 (by decide) ?_
  refine lv_iadd hx hb dL_law_968 ?_
  refine va_sld hx hb hXs hbl hbA hS h3 dL_law_969 ?_
  refine lv_aload_n hx hb dL_law_970 rfl (lv_at hl 0 rfl) ?_
  refine lv_iload_n hx hb dL_law_971 rfl (lv_at hl 3 rfl) ?_
  refine lv_iconst (v := 4) hx hb dL_law_972 (by decide) ?_
  refine lv_iadd hx hb dL_law_973 ?_
  refine va_sld hx hb hXs hbl hbA hS h4 dL_law_974 ?_
  obtain ⟨r, σ1, τ1, hc, hm, hR1⟩ := hop σ τ (xs (x3 + 1).toNatClampNeg) (xs (x3 + 2).toNatClampNeg) (xs (x3 + 3).toNatClampNeg) (xs (x3 + 4).toNatClampNeg) hRel
  refine w_call (z := true) (zo := false) (E' := E2) (n := 4) (As := [.int (xs (x3 + 1).toNatClampNeg), .int (xs (x3 + 2).toNatClampNeg), .int (xs (x3 + 3).toNatClampNeg), .int (xs (x3 + 4).toNatClampNeg)]) (rest := []) S hK1 hX hdis hin1 (c_fX10_place hj1 σ H.size (xs (x3 + 1).toNatClampNeg) (xs (x3 + 2).toNatClampNeg) (xs (x3 + 3).toNatClampNeg) (xs (x3 + 4).toNatClampNeg) hc) oC_0 rfl gv_RL_111 (by decide +kernel) ⟨rfl, rfl, by decide, by decide⟩ rfl rfl (Nat.le_of_ble_eq_true rfl) dL_law_975 hcs hP hPm hS hl.1 (fun H locs hP hPm hS => ?_)
  refine lv_aload_n hx hb dL_law_978 rfl (lv_at hl 2 rfl) ?_
  refine lv_aload_n hx hb dL_law_979 rfl (lv_at hl 0 rfl) ?_
  refine lv_iload_n hx hb dL_law_980 rfl (lv_at hl 3 rfl) ?_
  refine lv_iconst (v := 1) hx hb dL_law_981 (by decide) ?_
  refine lv_iadd hx hb dL_law_982 ?_
  refine va_sld hx hb hXs hbl hbA hS h1 dL_law_983 ?_
  refine lv_aload_n hx hb dL_law_984 rfl (lv_at hl 0 rfl) ?_
  refine lv_iload_n hx hb dL_law_985 rfl (lv_at hl 3 rfl) ?_
  refine lv_iconst (v := 2) hx hb dL_law_986 (by decide) ?_
  refine lv_iadd hx hb dL_law_987 ?_
  refine va_sld hx hb hXs hbl hbA hS h2 dL_law_988 ?_
  refine lv_aload_n hx hb dL_law_989 rfl (lv_at hl 0 rfl) ?_
  refine lv_iload_n hx hb dL_law_990 rfl (lv_at hl 3 rfl) ?_
  refine lv_iconst (v := 3) hx hb dL_law_991 (by decide) ?_
  refine lv_iadd hx hb dL_law_992 ?_
  refine va_sld hx hb hXs hbl hbA hS h3 dL_law_993 ?_
  refine lv_aload_n hx hb dL_law_994 rfl (lv_at hl 0 rfl) ?_
  refine lv_iload_n hx hb dL_law_995 rfl (lv_at hl 3 rfl) ?_
  refine lv_iconst (v := 4) hx hb dL_law_996 (by decide) ?_
  refine lv_iadd hx hb dL_law_997 ?_
  refine va_sld hx hb hXs hbl hbA hS h4 dL_law_998 ?_
  refine w_call (z := false) (zo := true) (E' := E1) (n := 4) (As := [.int (xs (x3 + 1).toNatClampNeg), .int (xs (x3 + 2).toNatClampNeg), .int (xs (x3 + 3).toNatClampNeg), .int (xs (x3 + 4).toNatClampNeg)]) (rest := [.int r]) S hK2 trivial (fun i j hi hj => (hdis j i hj hi).symm) hin2 (c_fX11_place hj2 τ H.size (xs (x3 + 1).toNatClampNeg) (xs (x3 + 2).toNatClampNeg) (xs (x3 + 3).toNatClampNeg) (xs (x3 + 4).toNatClampNeg) hm) oM_0 rfl gv_RL_114 (by decide +kernel) ⟨rfl, rfl, by decide, by decide⟩ rfl rfl (Nat.le_of_ble_eq_true rfl) dL_law_999 hcs hPm hP hS hl.1 (fun H locs hPm hP hS => ?_)
  exact lv_icmp_eq (tgt := 1264) hx hb dL_law_1002 (by decide) (fun _ => hnx σ1 τ1 H locs hR1 hP hPm hS) (fun c2 => absurd rfl c2)
def op_23 (Rel : St → St → Prop) : Prop := ∀ (σ τ : St) (a0 : Int32), Rel σ τ → ∃ r σ1 τ1, fX10_fair σ a0 = some (r, σ1) ∧ fX11_fair τ a0 = some (r, τ1) ∧ Rel σ1 τ1
set_option maxHeartbeats 4000000 in
theorem lc_23 (Rel : St → St → Prop) (hop : op_23 Rel) {p : Program} {l : Launch} {e : Env} {s : State} {m : MethodId} {below : List Frame} {meth : Method} {c : Code} {E1 E2 : Ev} {b L : Nat} {xs : Nat → Int32} {cells slots : Nat} {Q : State → Prop} (C : LC E1 E2 p s m c b L xs) (hcs : cells ≤ room_1.cells ∧ slots ≤ room_1.slots) (x3 : Int32) (h1 : vp_in (x3 + 1) L) (h2 : vp_in (x3 + 2) L) (h3 : vp_in (x3 + 3) L) (h4 : vp_in (x3 + 4) L) (h5 : vp_in (x3 + 5) L) (σ τ : St) (hRel : Rel σ τ) (H : Heap) (locs : List Loc) (ls : Array Slot) (hP : va_P (eD E1) vwCl (wd true E1 σ) H) (hPm : va_P (eD E2) vwCl (wd false E2 τ) H) (hS : va_S (fun q => s.heap.size ≤ q) s.heap H locs) (hl : lv_has ls 4 [(0, .ref b), (1, .ref (ea E1 0)), (2, .ref (ea E2 0)), (3, .int x3)]) (hnx : (∀ (σ τ : St) (H : Heap) (locs : List Loc), Rel σ τ → va_P (eD E1) vwCl (wd true E1 σ) H → va_P (eD E2) vwCl (wd false E2 τ) H → va_S (fun q => s.heap.size ≤ q) s.heap H locs → W p l e room_1 s m #[Value.ref b] below meth c H locs cells slots Q (F0 m 1264 ls []))) : W p l e room_1 s m #[Value.ref b] below meth c H locs cells slots Q (F0 m 1007 ls []) := by
  obtain ⟨S, hXs, hbl, ⟨hK1, hK2⟩, hX, ⟨hj1, hj2⟩, hdis, hin1, hin2⟩ := C
  have hbA : ¬ (fun q : Nat => s.heap.size ≤ q) b := Nat.not_le.mpr hbl
  obtain ⟨hx, hb, hml, hown, hts⟩ := id S
  refine lv_aload_n hx hb dL_law_1007 rfl (lv_at hl 1 rfl) ?_
  refine lv_aload_n hx hb dL_law_1008 rfl (lv_at hl 0 rfl) ?_
  refine lv_iload_n hx hb dL_law_1009 rfl (lv_at hl 3 rfl) ?_
  refine lv_iconst (v := 1) hx hb dL_law_1010 (by decide) ?_
  refine lv_iadd hx hb dL_law_1011 ?_
  refine va_sld hx hb hXs hbl hbA hS h1 dL_law_1012 ?_
  obtain ⟨r, σ1, τ1, hc, hm, hR1⟩ := hop σ τ (xs (x3 + 1).toNatClampNeg) hRel
  refine w_call (z := true) (zo := false) (E' := E2) (n := 1) (As := [.int (xs (x3 + 1).toNatClampNeg)]) (rest := []) S hK1 hX hdis hin1 (c_fX10_fair hj1 σ H.size (xs (x3 + 1).toNatClampNeg) hc) oC_0 rfl gv_RL_115 (by decide +kernel) ⟨rfl, rfl, by decide, by decide⟩ rfl rfl (Nat.le_of_ble_eq_true rfl) dL_law_1013 hcs hP hPm hS hl.1 (fun H locs hP hPm hS => ?_)
  refine lv_aload_n hx hb dL_law_1016 rfl (lv_at hl 2 rfl) ?_
  refine lv_aload_n hx hb dL_law_1017 rfl (lv_at hl 0 rfl) ?_
  refine lv_iload_n hx hb dL_law_1018 rfl (lv_at hl 3 rfl) ?_
  refine lv_iconst (v := 1) hx hb dL_law_1019 (by decide) ?_
  refine lv_iadd hx hb dL_law_1020 ?_
  refine va_sld hx hb hXs hbl hbA hS h1 dL_law_1021 ?_
  refine w_call (z := false) (zo := true) (E' := E1) (n := 1) (As := [.int (xs (x3 + 1).toNatClampNeg)]) (rest := [.int r]) S hK2 trivial (fun i j hi hj => (hdis j i hj hi).symm) hin2 (c_fX11_fair hj2 τ H.size (xs (x3 + 1).toNatClampNeg) hm) oM_0 rfl gv_RL_118 (by decide +kernel) ⟨rfl, rfl, by decide, by decide⟩ rfl rfl (Nat.le_of_ble_eq_true rfl) dL_law_1022 hcs hPm hP hS hl.1 (fun H locs hPm hP hS => ?_)
  exact lv_icmp_eq (tgt := 1264) hx hb dL_law_1025 (by decide) (fun _ => hnx σ1 τ1 H locs hR1 hP hPm hS) (fun c2 => absurd rfl c2)
def op_24 (Rel : St → St → Prop) : Prop := ∀ (σ τ : St) (a0 a1 : Int32), Rel σ τ → ∃ r σ1 τ1, fX10_may σ a0 a1 = some (r, σ1) ∧ fX11_may τ a0 a1 = some (r, τ1) ∧ Rel σ1 τ1
set_option maxHeartbeats 4000000 in
theorem lc_24 (Rel : St → St → Prop) (hop : op_24 Rel) {p : Program} {l : Launch} {e : Env} {s : State} {m : MethodId} {below : List Frame} {meth : Method} {c : Code} {E1 E2 : Ev} {b L : Nat} {xs : Nat → Int32} {cells slots : Nat} {Q : State → Prop} (C : LC E1 E2 p s m c b L xs) (hcs : cells ≤ room_1.cells ∧ slots ≤ room_1.slots) (x3 : Int32) (h1 : vp_in (x3 + 1) L) (h2 : vp_in (x3 + 2) L) (h3 : vp_in (x3 + 3) L) (h4 : vp_in (x3 + 4) L) (h5 : vp_in (x3 + 5) L) (σ τ : St) (hRel : Rel σ τ) (H : Heap) (locs : List Loc) (ls : Array Slot) (hP : va_P (eD E1) vwCl (wd true E1 σ) H) (hPm : va_P (eD E2) vwCl (wd false E2 τ) H) (hS : va_S (fun q => s.heap.size ≤ q) s.heap H locs) (hl : lv_has ls 4 [(0, .ref b), (1, .ref (ea E1 0)), (2, .ref (ea E2 0)), (3, .int x3)]) (hnx : (∀ (σ τ : St) (H : Heap) (locs : List Loc), Rel σ τ → va_P (eD E1) vwCl (wd true E1 σ) H → va_P (eD E2) vwCl (wd false E2 τ) H → va_S (fun q => s.heap.size ≤ q) s.heap H locs → W p l e room_1 s m #[Value.ref b] below meth c H locs cells slots Q (F0 m 1264 ls []))) : W p l e room_1 s m #[Value.ref b] below meth c H locs cells slots Q (F0 m 1030 ls []) := by
  obtain ⟨S, hXs, hbl, ⟨hK1, hK2⟩, hX, ⟨hj1, hj2⟩, hdis, hin1, hin2⟩ := C
  have hbA : ¬ (fun q : Nat => s.heap.size ≤ q) b := Nat.not_le.mpr hbl
  obtain ⟨hx, hb, hml, hown, hts⟩ := id S
  refine lv_aload_n hx hb dL_law_1030 rfl (lv_at hl 1 rfl) ?_
  refine lv_aload_n hx hb dL_law_1031 rfl (lv_at hl 0 rfl) ?_
  refine lv_iload_n hx hb dL_law_1032 rfl (lv_at hl 3 rfl) ?_
  refine lv_iconst (v := 1) hx hb dL_law_1033 (by decide) ?_
  refine lv_iadd hx hb dL_law_1034 ?_
  refine va_sld hx hb hXs hbl hbA hS h1 dL_law_1035 ?_
  refine lv_aload_n hx hb dL_law_1036 rfl (lv_at hl 0 rfl) ?_
  refine lv_iload_n hx hb dL_law_1037 rfl (lv_at hl 3 rfl) ?_
  refine lv_iconst (v := 2) hx hb dL_law_1038 (by decide) ?_
  refine lv_iadd hx hb dL_law_1039 ?_
  refine va_sld hx hb hXs hbl hbA hS h2 dL_law_1040 ?_
  obtain ⟨r, σ1, τ1, hc, hm, hR1⟩ := hop σ τ (xs (x3 + 1).toNatClampNeg) (xs (x3 + 2).toNatClampNeg) hRel
  refine w_call (z := true) (zo := false) (E' := E2) (n := 2) (As := [.int (xs (x3 + 1).toNatClampNeg), .int (xs (x3 + 2).toNatClampNeg)]) (rest := []) S hK1 hX hdis hin1 (c_fX10_may hj1 σ H.size (xs (x3 + 1).toNatClampNeg) (xs (x3 + 2).toNatClampNeg) hc) oC_0 rfl gv_RL_119 (by decide +kernel) ⟨rfl, rfl, by decide, by decide⟩ rfl rfl (Nat.le_of_ble_eq_true rfl) dL_law_1041 hcs hP hPm hS hl.1 (fun H locs hP hPm hS => ?_)
  refine lv_aload_n hx hb dL_law_1044 rfl (lv_at hl 2 rfl) ?_
  refine lv_aload_n hx hb dL_law_1045 rfl (lv_at hl 0 rfl) ?_
  refine lv_iload_n hx hb dL_law_1046 rfl (lv_at hl 3 rfl) ?_
  refine lv_iconst (v := 1) hx hb dL_law_1047 (by decide) ?_
  refine lv_iadd hx hb dL_law_1048 ?_
  refine va_sld hx hb hXs hbl hbA hS h1 dL_law_1049 ?_
  refine lv_aload_n hx hb dL_law_1050 rfl (lv_at hl 0 rfl) ?_
  refine lv_iload_n hx hb dL_law_1051 rfl (lv_at hl 3 rfl) ?_
  refine lv_iconst (v := 2) hx hb dL_law_1052 (by decide) ?_
  refine lv_iadd hx hb dL_law_1053 ?_
  refine va_sld hx hb hXs hbl hbA hS h2 dL_law_1054 ?_
  refine w_call (z := false) (zo := true) (E' := E1) (n := 2) (As := [.int (xs (x3 + 1).toNatClampNeg), .int (xs (x3 + 2).toNatClampNeg)]) (rest := [.int r]) S hK2 trivial (fun i j hi hj => (hdis j i hj hi).symm) hin2 (c_fX11_may hj2 τ H.size (xs (x3 + 1).toNatClampNeg) (xs (x3 + 2).toNatClampNeg) hm) oM_0 rfl gv_RL_122 (by decide +kernel) ⟨rfl, rfl, by decide, by decide⟩ rfl rfl (Nat.le_of_ble_eq_true rfl) dL_law_1055 hcs hPm hP hS hl.1 (fun H locs hPm hP hS => ?_)
  exact lv_icmp_eq (tgt := 1264) hx hb dL_law_1058 (by decide) (fun _ => hnx σ1 τ1 H locs hR1 hP hPm hS) (fun c2 => absurd rfl c2)
def op_25 (Rel : St → St → Prop) : Prop := ∀ (σ τ : St) (a0 a1 : Int32), Rel σ τ → ∃ r σ1 τ1, fX10_let σ a0 a1 = some (r, σ1) ∧ fX11_let τ a0 a1 = some (r, τ1) ∧ Rel σ1 τ1
set_option maxHeartbeats 4000000 in
theorem lc_25 (Rel : St → St → Prop) (hop : op_25 Rel) {p : Program} {l : Launch} {e : Env} {s : State} {m : MethodId} {below : List Frame} {meth : Method} {c : Code} {E1 E2 : Ev} {b L : Nat} {xs : Nat → Int32} {cells slots : Nat} {Q : State → Prop} (C : LC E1 E2 p s m c b L xs) (hcs : cells ≤ room_1.cells ∧ slots ≤ room_1.slots) (x3 : Int32) (h1 : vp_in (x3 + 1) L) (h2 : vp_in (x3 + 2) L) (h3 : vp_in (x3 + 3) L) (h4 : vp_in (x3 + 4) L) (h5 : vp_in (x3 + 5) L) (σ τ : St) (hRel : Rel σ τ) (H : Heap) (locs : List Loc) (ls : Array Slot) (hP : va_P (eD E1) vwCl (wd true E1 σ) H) (hPm : va_P (eD E2) vwCl (wd false E2 τ) H) (hS : va_S (fun q => s.heap.size ≤ q) s.heap H locs) (hl : lv_has ls 4 [(0, .ref b), (1, .ref (ea E1 0)), (2, .ref (ea E2 0)), (3, .int x3)]) (hnx : (∀ (σ τ : St) (H : Heap) (locs : List Loc), Rel σ τ → va_P (eD E1) vwCl (wd true E1 σ) H → va_P (eD E2) vwCl (wd false E2 τ) H → va_S (fun q => s.heap.size ≤ q) s.heap H locs → W p l e room_1 s m #[Value.ref b] below meth c H locs cells slots Q (F0 m 1264 ls []))) : W p l e room_1 s m #[Value.ref b] below meth c H locs cells slots Q (F0 m 1063 ls []) := by
  obtain ⟨S, hXs, hbl, ⟨hK1, hK2⟩, hX, ⟨hj1, hj2⟩, hdis, hin1, hin2⟩ := C
  have hbA : ¬ (fun q : Nat => s.heap.size ≤ q) b := Nat.not_le.mpr hbl
  obtain ⟨hx, hb, hml, hown, hts⟩ := id S
  refine lv_aload_n hx hb dL_law_1063 rfl (lv_at hl 1 rfl) ?_
  refine lv_aload_n hx hb dL_law_1064 rfl (lv_at hl 0 rfl) ?_
  refine lv_iload_n hx hb dL_law_1065 rfl (lv_at hl 3 rfl) ?_
  refine lv_iconst (v := 1) hx hb dL_law_1066 (by decide) ?_
  refine lv_iadd hx hb dL_law_1067 ?_
  refine va_sld hx hb hXs hbl hbA hS h1 dL_law_1068 ?_
  refine lv_aload_n hx hb dL_law_1069 rfl (lv_at hl 0 rfl) ?_
  refine lv_iload_n hx hb dL_law_1070 rfl (lv_at hl 3 rfl) ?_
  refine lv_iconst (v := 2) hx hb dL_law_1071 (by decide) ?_
  refine lv_iadd hx hb dL_law_1072 ?_
  refine va_sld hx hb hXs hbl hbA hS h2 dL_law_1073 ?_
  obtain ⟨r, σ1, τ1, hc, hm, hR1⟩ := hop σ τ (xs (x3 + 1).toNatClampNeg) (xs (x3 + 2).toNatClampNeg) hRel
  refine w_call (z := true) (zo := false) (E' := E2) (n := 2) (As := [.int (xs (x3 + 1).toNatClampNeg), .int (xs (x3 + 2).toNatClampNeg)]) (rest := []) S hK1 hX hdis hin1 (c_fX10_let hj1 σ H.size (xs (x3 + 1).toNatClampNeg) (xs (x3 + 2).toNatClampNeg) hc) oC_0 rfl gv_RL_123 (by decide +kernel) ⟨rfl, rfl, by decide, by decide⟩ rfl rfl (Nat.le_of_ble_eq_true rfl) dL_law_1074 hcs hP hPm hS hl.1 (fun H locs hP hPm hS => ?_)
  refine lv_aload_n hx hb dL_law_1077 rfl (lv_at hl 2 rfl) ?_
  refine lv_aload_n hx hb dL_law_1078 rfl (lv_at hl 0 rfl) ?_
  refine lv_iload_n hx hb dL_law_1079 rfl (lv_at hl 3 rfl) ?_
  refine lv_iconst (v := 1) hx hb dL_law_1080 (by decide) ?_
  refine lv_iadd hx hb dL_law_1081 ?_
  refine va_sld hx hb hXs hbl hbA hS h1 dL_law_1082 ?_
  refine lv_aload_n hx hb dL_law_1083 rfl (lv_at hl 0 rfl) ?_
  refine lv_iload_n hx hb dL_law_1084 rfl (lv_at hl 3 rfl) ?_
  refine lv_iconst (v := 2) hx hb dL_law_1085 (by decide) ?_
  refine lv_iadd hx hb dL_law_1086 ?_
  refine va_sld hx hb hXs hbl hbA hS h2 dL_law_1087 ?_
  refine w_call (z := false) (zo := true) (E' := E1) (n := 2) (As := [.int (xs (x3 + 1).toNatClampNeg), .int (xs (x3 + 2).toNatClampNeg)]) (rest := [.int r]) S hK2 trivial (fun i j hi hj => (hdis j i hj hi).symm) hin2 (c_fX11_let hj2 τ H.size (xs (x3 + 1).toNatClampNeg) (xs (x3 + 2).toNatClampNeg) hm) oM_0 rfl gv_RL_126 (by decide +kernel) ⟨rfl, rfl, by decide, by decide⟩ rfl rfl (Nat.le_of_ble_eq_true rfl) dL_law_1088 hcs hPm hP hS hl.1 (fun H locs hPm hP hS => ?_)
  exact lv_icmp_eq (tgt := 1264) hx hb dL_law_1091 (by decide) (fun _ => hnx σ1 τ1 H locs hR1 hP hPm hS) (fun c2 => absurd rfl c2)
def op_26 (Rel : St → St → Prop) : Prop := ∀ (σ τ : St) (a0 : Int32), Rel σ τ → ∃ r σ1 τ1, fX10_port σ a0 = some (r, σ1) ∧ fX11_port τ a0 = some (r, τ1) ∧ Rel σ1 τ1
set_option maxHeartbeats 4000000 in
theorem lc_26 (Rel : St → St → Prop) (hop : op_26 Rel) {p : Program} {l : Launch} {e : Env} {s : State} {m : MethodId} {below : List Frame} {meth : Method} {c : Code} {E1 E2 : Ev} {b L : Nat} {xs : Nat → Int32} {cells slots : Nat} {Q : State → Prop} (C : LC E1 E2 p s m c b L xs) (hcs : cells ≤ room_1.cells ∧ slots ≤ room_1.slots) (x3 : Int32) (h1 : vp_in (x3 + 1) L) (h2 : vp_in (x3 + 2) L) (h3 : vp_in (x3 + 3) L) (h4 : vp_in (x3 + 4) L) (h5 : vp_in (x3 + 5) L) (σ τ : St) (hRel : Rel σ τ) (H : Heap) (locs : List Loc) (ls : Array Slot) (hP : va_P (eD E1) vwCl (wd true E1 σ) H) (hPm : va_P (eD E2) vwCl (wd false E2 τ) H) (hS : va_S (fun q => s.heap.size ≤ q) s.heap H locs) (hl : lv_has ls 4 [(0, .ref b), (1, .ref (ea E1 0)), (2, .ref (ea E2 0)), (3, .int x3)]) (hnx : (∀ (σ τ : St) (H : Heap) (locs : List Loc), Rel σ τ → va_P (eD E1) vwCl (wd true E1 σ) H → va_P (eD E2) vwCl (wd false E2 τ) H → va_S (fun q => s.heap.size ≤ q) s.heap H locs → W p l e room_1 s m #[Value.ref b] below meth c H locs cells slots Q (F0 m 1264 ls []))) : W p l e room_1 s m #[Value.ref b] below meth c H locs cells slots Q (F0 m 1096 ls []) := by
  obtain ⟨S, hXs, hbl, ⟨hK1, hK2⟩, hX, ⟨hj1, hj2⟩, hdis, hin1, hin2⟩ := C
  have hbA : ¬ (fun q : Nat => s.heap.size ≤ q) b := Nat.not_le.mpr hbl
  obtain ⟨hx, hb, hml, hown, hts⟩ := id S
  refine lv_aload_n hx hb dL_law_1096 rfl (lv_at hl 1 rfl) ?_
  refine lv_aload_n hx hb dL_law_1097 rfl (lv_at hl 0 rfl) ?_
  refine lv_iload_n hx hb dL_law_1098 rfl (lv_at hl 3 rfl) ?_
  refine lv_iconst (v := 1) hx hb dL_law_1099 (by decide) ?_
  refine lv_iadd hx hb dL_law_1100 ?_
  refine va_sld hx hb hXs hbl hbA hS h1 dL_law_1101 ?_
  obtain ⟨r, σ1, τ1, hc, hm, hR1⟩ := hop σ τ (xs (x3 + 1).toNatClampNeg) hRel
  refine w_call (z := true) (zo := false) (E' := E2) (n := 1) (As := [.int (xs (x3 + 1).toNatClampNeg)]) (rest := []) S hK1 hX hdis hin1 (c_fX10_port hj1 σ H.size (xs (x3 + 1).toNatClampNeg) hc) oC_0 rfl gv_RL_127 (by decide +kernel) ⟨rfl, rfl, by decide, by decide⟩ rfl rfl (Nat.le_of_ble_eq_true rfl) dL_law_1102 hcs hP hPm hS hl.1 (fun H locs hP hPm hS => ?_)
  refine lv_aload_n hx hb dL_law_1105 rfl (lv_at hl 2 rfl) ?_
  refine lv_aload_n hx hb dL_law_1106 rfl (lv_at hl 0 rfl) ?_
  refine lv_iload_n hx hb dL_law_1107 rfl (lv_at hl 3 rfl) ?_
  refine lv_iconst (v := 1) hx hb dL_law_1108 (by decide) ?_
  refine lv_iadd hx hb dL_law_1109 ?_
  refine va_sld hx hb hXs hbl hbA hS h1 dL_law_1110 ?_
  refine w_call (z := false) (zo := true) (E' := E1) (n := 1) (As := [.int (xs (x3 + 1).toNatClampNeg)]) (rest := [.int r]) S hK2 trivial (fun i j hi hj => (hdis j i hj hi).symm) hin2 (c_fX11_port hj2 τ H.size (xs (x3 + 1).toNatClampNeg) hm) oM_0 rfl gv_RL_130 (by decide +kernel) ⟨rfl, rfl, by decide, by decide⟩ rfl rfl (Nat.le_of_ble_eq_true rfl) dL_law_1111 hcs hPm hP hS hl.1 (fun H locs hPm hP hS => ?_)
  exact lv_icmp_eq (tgt := 1264) hx hb dL_law_1114 (by decide) (fun _ => hnx σ1 τ1 H locs hR1 hP hPm hS) (fun c2 => absurd rfl c2)
def op_27 (Rel : St → St → Prop) : Prop := ∀ (σ τ : St) (a0 : Int32), Rel σ τ → ∃ r σ1 τ1, fX10_reach σ a0 = some (r, σ1) ∧ fX11_reach τ a0 = some (r, τ1) ∧ Rel σ1 τ1
set_option maxHeartbeats 4000000 in
theorem lc_27 (Rel : St → St → Prop) (hop : op_27 Rel) {p : Program} {l : Launch} {e : Env} {s : State} {m : MethodId} {below : List Frame} {meth : Method} {c : Code} {E1 E2 : Ev} {b L : Nat} {xs : Nat → Int32} {cells slots : Nat} {Q : State → Prop} (C : LC E1 E2 p s m c b L xs) (hcs : cells ≤ room_1.cells ∧ slots ≤ room_1.slots) (x3 : Int32) (h1 : vp_in (x3 + 1) L) (h2 : vp_in (x3 + 2) L) (h3 : vp_in (x3 + 3) L) (h4 : vp_in (x3 + 4) L) (h5 : vp_in (x3 + 5) L) (σ τ : St) (hRel : Rel σ τ) (H : Heap) (locs : List Loc) (ls : Array Slot) (hP : va_P (eD E1) vwCl (wd true E1 σ) H) (hPm : va_P (eD E2) vwCl (wd false E2 τ) H) (hS : va_S (fun q => s.heap.size ≤ q) s.heap H locs) (hl : lv_has ls 4 [(0, .ref b), (1, .ref (ea E1 0)), (2, .ref (ea E2 0)), (3, .int x3)]) (hnx : (∀ (σ τ : St) (H : Heap) (locs : List Loc), Rel σ τ → va_P (eD E1) vwCl (wd true E1 σ) H → va_P (eD E2) vwCl (wd false E2 τ) H → va_S (fun q => s.heap.size ≤ q) s.heap H locs → W p l e room_1 s m #[Value.ref b] below meth c H locs cells slots Q (F0 m 1264 ls []))) : W p l e room_1 s m #[Value.ref b] below meth c H locs cells slots Q (F0 m 1119 ls []) := by
  obtain ⟨S, hXs, hbl, ⟨hK1, hK2⟩, hX, ⟨hj1, hj2⟩, hdis, hin1, hin2⟩ := C
  have hbA : ¬ (fun q : Nat => s.heap.size ≤ q) b := Nat.not_le.mpr hbl
  obtain ⟨hx, hb, hml, hown, hts⟩ := id S
  refine lv_aload_n hx hb dL_law_1119 rfl (lv_at hl 1 rfl) ?_
  refine lv_aload_n hx hb dL_law_1120 rfl (lv_at hl 0 rfl) ?_
  refine lv_iload_n hx hb dL_law_1121 rfl (lv_at hl 3 rfl) ?_
  refine lv_iconst (v := 1) hx hb dL_law_1122 (by decide) ?_
  refine lv_iadd hx hb dL_law_1123 ?_
  refine va_sld hx hb hXs hbl hbA hS h1 dL_law_1124 ?_
  obtain ⟨r, σ1, τ1, hc, hm, hR1⟩ := hop σ τ (xs (x3 + 1).toNatClampNeg) hRel
  refine w_call (z := true) (zo := false) (E' := E2) (n := 1) (As := [.int (xs (x3 + 1).toNatClampNeg)]) (rest := []) S hK1 hX hdis hin1 (c_fX10_reach hj1 σ H.size (xs (x3 + 1).toNatClampNeg) hc) oC_0 rfl gv_RL_131 (by decide +kernel) ⟨rfl, rfl, by decide, by decide⟩ rfl rfl (Nat.le_of_ble_eq_true rfl) dL_law_1125 hcs hP hPm hS hl.1 (fun H locs hP hPm hS => ?_)
  refine lv_aload_n hx hb dL_law_1128 rfl (lv_at hl 2 rfl) ?_
  refine lv_aload_n hx hb dL_law_1129 rfl (lv_at hl 0 rfl) ?_
  refine lv_iload_n hx hb dL_law_1130 rfl (lv_at hl 3 rfl) ?_
  refine lv_iconst (v := 1) hx hb dL_law_1131 (by decide) ?_
  refine lv_iadd hx hb dL_law_1132 ?_
  refine va_sld hx hb hXs hbl hbA hS h1 dL_law_1133 ?_
  refine w_call (z := false) (zo := true) (E' := E1) (n := 1) (As := [.int (xs (x3 + 1).toNatClampNeg)]) (rest := [.int r]) S hK2 trivial (fun i j hi hj => (hdis j i hj hi).symm) hin2 (c_fX11_reach hj2 τ H.size (xs (x3 + 1).toNatClampNeg) hm) oM_0 rfl gv_RL_134 (by decide +kernel) ⟨rfl, rfl, by decide, by decide⟩ rfl rfl (Nat.le_of_ble_eq_true rfl) dL_law_1134 hcs hPm hP hS hl.1 (fun H locs hPm hP hS => ?_)
  exact lv_icmp_eq (tgt := 1264) hx hb dL_law_1137 (by decide) (fun _ => hnx σ1 τ1 H locs hR1 hP hPm hS) (fun c2 => absurd rfl c2)
def op_28 (Rel : St → St → Prop) : Prop := ∀ (σ τ : St) (a0 a1 a2 a3 : Int32), (a3 = 0 ∨ a3 = 1) → Rel σ τ → ∃ r σ1 τ1, fX10_list σ a0 a1 a2 a3 = some (r, σ1) ∧ fX11_list τ a0 a1 a2 a3 = some (r, τ1) ∧ Rel σ1 τ1
set_option maxHeartbeats 4000000 in
theorem lc_28 (Rel : St → St → Prop) (hop : op_28 Rel) {p : Program} {l : Launch} {e : Env} {s : State} {m : MethodId} {below : List Frame} {meth : Method} {c : Code} {E1 E2 : Ev} {b L : Nat} {xs : Nat → Int32} {cells slots : Nat} {Q : State → Prop} (C : LC E1 E2 p s m c b L xs) (hcs : cells ≤ room_1.cells ∧ slots ≤ room_1.slots) (x3 : Int32) (h1 : vp_in (x3 + 1) L) (h2 : vp_in (x3 + 2) L) (h3 : vp_in (x3 + 3) L) (h4 : vp_in (x3 + 4) L) (h5 : vp_in (x3 + 5) L) (σ τ : St) (hRel : Rel σ τ) (H : Heap) (locs : List Loc) (ls : Array Slot) (hP : va_P (eD E1) vwCl (wd true E1 σ) H) (hPm : va_P (eD E2) vwCl (wd false E2 τ) H) (hS : va_S (fun q => s.heap.size ≤ q) s.heap H locs) (hl : lv_has ls 4 [(0, .ref b), (1, .ref (ea E1 0)), (2, .ref (ea E2 0)), (3, .int x3)]) (hnx : (∀ (σ τ : St) (H : Heap) (locs : List Loc), Rel σ τ → va_P (eD E1) vwCl (wd true E1 σ) H → va_P (eD E2) vwCl (wd false E2 τ) H → va_S (fun q => s.heap.size ≤ q) s.heap H locs → W p l e room_1 s m #[Value.ref b] below meth c H locs cells slots Q (F0 m 1264 ls []))) : W p l e room_1 s m #[Value.ref b] below meth c H locs cells slots Q (F0 m 1142 ls []) := by
  obtain ⟨S, hXs, hbl, ⟨hK1, hK2⟩, hX, ⟨hj1, hj2⟩, hdis, hin1, hin2⟩ := C
  have hbA : ¬ (fun q : Nat => s.heap.size ≤ q) b := Nat.not_le.mpr hbl
  obtain ⟨hx, hb, hml, hown, hts⟩ := id S
  refine lv_aload_n hx hb dL_law_1142 rfl (lv_at hl 1 rfl) ?_
  refine lv_aload_n hx hb dL_law_1143 rfl (lv_at hl 0 rfl) ?_
  refine lv_iload_n hx hb dL_law_1144 rfl (lv_at hl 3 rfl) ?_
  refine lv_iconst (v := 1) hx hb dL_law_1145 (by decide) ?_
  refine lv_iadd hx hb dL_law_1146 ?_
  refine va_sld hx hb hXs hbl hbA hS h1 dL_law_1147 ?_
  refine lv_aload_n hx hb dL_law_1148 rfl (lv_at hl 0 rfl) ?_
  refine lv_iload_n hx hb dL_law_1149 rfl (lv_at hl 3 rfl) ?_
  refine lv_iconst (v := 2) hx hb dL_law_1150 (by decide) ?_
  refine lv_iadd hx hb dL_law_1151 ?_
  refine va_sld hx hb hXs hbl hbA hS h2 dL_law_1152 ?_
  refine lv_aload_n hx hb dL_law_1153 rfl (lv_at hl 0 rfl) ?_
  refine lv_iload_n hx hb dL_law_1154 rfl (lv_at hl 3 rfl) ?_
  refine lv_iconst (v := 3) hx hb dL_law_1155 (by decide) ?_
  refine lv_iadd hx hb dL_law_1156 ?_
  refine va_sld hx hb hXs hbl hbA hS h3 dL_law_1157 ?_
  refine lv_aload_n hx hb dL_law_1158 rfl (lv_at hl 0 rfl) ?_
  refine lv_iload_n hx hb dL_law_1159 rfl (lv_at hl 3 rfl) ?_
  refine lv_iconst (v := 4) hx hb dL_law_1160 (by decide) ?_
  refine lv_iadd hx hb dL_law_1161 ?_
  refine va_sld hx hb hXs hbl hbA hS h4 dL_law_1162 ?_
  refine lv_if_eq (tgt := 1170) hx hb dL_law_1163 (by decide) (fun cz => ?_) (fun cz => ?_)
  ·
    refine lv_iconst (v := 0) hx hb dL_law_1170 (by decide) ?_
    obtain ⟨r, σ1, τ1, hc, hm, hR1⟩ := hop σ τ (xs (x3 + 1).toNatClampNeg) (xs (x3 + 2).toNatClampNeg) (xs (x3 + 3).toNatClampNeg) 0 (Or.inl rfl) hRel
    refine w_call (z := true) (zo := false) (E' := E2) (n := 4) (As := [.int (xs (x3 + 1).toNatClampNeg), .int (xs (x3 + 2).toNatClampNeg), .int (xs (x3 + 3).toNatClampNeg), .int 0]) (rest := []) S hK1 hX hdis hin1 (c_fX10_list hj1 σ H.size (xs (x3 + 1).toNatClampNeg) (xs (x3 + 2).toNatClampNeg) (xs (x3 + 3).toNatClampNeg) 0 hc) oC_0 rfl gv_RL_135 (by decide +kernel) ⟨rfl, rfl, by decide, by decide⟩ rfl rfl (Nat.le_of_ble_eq_true rfl) dL_law_1171 hcs hP hPm hS hl.1 (fun H locs hP hPm hS => ?_)
    refine lv_aload_n hx hb dL_law_1174 rfl (lv_at hl 2 rfl) ?_
    refine lv_aload_n hx hb dL_law_1175 rfl (lv_at hl 0 rfl) ?_
    refine lv_iload_n hx hb dL_law_1176 rfl (lv_at hl 3 rfl) ?_
    refine lv_iconst (v := 1) hx hb dL_law_1177 (by decide) ?_
    refine lv_iadd hx hb dL_law_1178 ?_
    refine va_sld hx hb hXs hbl hbA hS h1 dL_law_1179 ?_
    refine lv_aload_n hx hb dL_law_1180 rfl (lv_at hl 0 rfl) ?_
    refine lv_iload_n hx hb dL_law_1181 rfl (lv_at hl 3 rfl) ?_
    refine lv_iconst (v := 2) hx hb dL_law_1182 (by decide) ?_
    refine lv_iadd hx hb dL_law_1183 ?_
    refine va_sld hx hb hXs hbl hbA hS h2 dL_law_1184 ?_
    refine lv_aload_n hx hb dL_law_1185 rfl (lv_at hl 0 rfl) ?_
    refine lv_iload_n hx hb dL_law_1186 rfl (lv_at hl 3 rfl) ?_
    refine lv_iconst (v := 3) hx hb dL_law_1187 (by decide) ?_
    refine lv_iadd hx hb dL_law_1188 ?_
    refine va_sld hx hb hXs hbl hbA hS h3 dL_law_1189 ?_
    refine lv_aload_n hx hb dL_law_1190 rfl (lv_at hl 0 rfl) ?_
    refine lv_iload_n hx hb dL_law_1191 rfl (lv_at hl 3 rfl) ?_
    refine lv_iconst (v := 4) hx hb dL_law_1192 (by decide) ?_
    refine lv_iadd hx hb dL_law_1193 ?_
    refine va_sld hx hb hXs hbl hbA hS h4 dL_law_1194 ?_
    refine lv_if_eq (tgt := 1202) hx hb dL_law_1195 (by decide) (fun _ => ?_) (fun c2 => absurd cz c2)
    refine lv_iconst (v := 0) hx hb dL_law_1202 (by decide) ?_
    refine w_call (z := false) (zo := true) (E' := E1) (n := 4) (As := [.int (xs (x3 + 1).toNatClampNeg), .int (xs (x3 + 2).toNatClampNeg), .int (xs (x3 + 3).toNatClampNeg), .int 0]) (rest := [.int r]) S hK2 trivial (fun i j hi hj => (hdis j i hj hi).symm) hin2 (c_fX11_list hj2 τ H.size (xs (x3 + 1).toNatClampNeg) (xs (x3 + 2).toNatClampNeg) (xs (x3 + 3).toNatClampNeg) 0 hm) oM_0 rfl gv_RL_139 (by decide +kernel) ⟨rfl, rfl, by decide, by decide⟩ rfl rfl (Nat.le_of_ble_eq_true rfl) dL_law_1203 hcs hPm hP hS hl.1 (fun H locs hPm hP hS => ?_)
    exact lv_icmp_eq (tgt := 1264) hx hb dL_law_1206 (by decide) (fun _ => hnx σ1 τ1 H locs hR1 hP hPm hS) (fun c2 => absurd rfl c2)
  ·
    refine lv_iconst (v := 1) hx hb dL_law_1166 (by decide) ?_
    refine lv_goto (tgt := 1171) hx hb dL_law_1167 (by decide) ?_
    obtain ⟨r, σ1, τ1, hc, hm, hR1⟩ := hop σ τ (xs (x3 + 1).toNatClampNeg) (xs (x3 + 2).toNatClampNeg) (xs (x3 + 3).toNatClampNeg) 1 (Or.inr rfl) hRel
    refine w_call (z := true) (zo := false) (E' := E2) (n := 4) (As := [.int (xs (x3 + 1).toNatClampNeg), .int (xs (x3 + 2).toNatClampNeg), .int (xs (x3 + 3).toNatClampNeg), .int 1]) (rest := []) S hK1 hX hdis hin1 (c_fX10_list hj1 σ H.size (xs (x3 + 1).toNatClampNeg) (xs (x3 + 2).toNatClampNeg) (xs (x3 + 3).toNatClampNeg) 1 hc) oC_0 rfl gv_RL_135 (by decide +kernel) ⟨rfl, rfl, by decide, by decide⟩ rfl rfl (Nat.le_of_ble_eq_true rfl) dL_law_1171 hcs hP hPm hS hl.1 (fun H locs hP hPm hS => ?_)
    refine lv_aload_n hx hb dL_law_1174 rfl (lv_at hl 2 rfl) ?_
    refine lv_aload_n hx hb dL_law_1175 rfl (lv_at hl 0 rfl) ?_
    refine lv_iload_n hx hb dL_law_1176 rfl (lv_at hl 3 rfl) ?_
    refine lv_iconst (v := 1) hx hb dL_law_1177 (by decide) ?_
    refine lv_iadd hx hb dL_law_1178 ?_
    refine va_sld hx hb hXs hbl hbA hS h1 dL_law_1179 ?_
    refine lv_aload_n hx hb dL_law_1180 rfl (lv_at hl 0 rfl) ?_
    refine lv_iload_n hx hb dL_law_1181 rfl (lv_at hl 3 rfl) ?_
    refine lv_iconst (v := 2) hx hb dL_law_1182 (by decide) ?_
    refine lv_iadd hx hb dL_law_1183 ?_
    refine va_sld hx hb hXs hbl hbA hS h2 dL_law_1184 ?_
    refine lv_aload_n hx hb dL_law_1185 rfl (lv_at hl 0 rfl) ?_
    refine lv_iload_n hx hb dL_law_1186 rfl (lv_at hl 3 rfl) ?_
    refine lv_iconst (v := 3) hx hb dL_law_1187 (by decide) ?_
    refine lv_iadd hx hb dL_law_1188 ?_
    refine va_sld hx hb hXs hbl hbA hS h3 dL_law_1189 ?_
    refine lv_aload_n hx hb dL_law_1190 rfl (lv_at hl 0 rfl) ?_
    refine lv_iload_n hx hb dL_law_1191 rfl (lv_at hl 3 rfl) ?_
    refine lv_iconst (v := 4) hx hb dL_law_1192 (by decide) ?_
    refine lv_iadd hx hb dL_law_1193 ?_
    refine va_sld hx hb hXs hbl hbA hS h4 dL_law_1194 ?_
    refine lv_if_eq (tgt := 1202) hx hb dL_law_1195 (by decide) (fun c2 => absurd c2 cz) (fun _ => ?_)
    refine lv_iconst (v := 1) hx hb dL_law_1198 (by decide) ?_
    refine lv_goto (tgt := 1203) hx hb dL_law_1199 (by decide) ?_
    refine w_call (z := false) (zo := true) (E' := E1) (n := 4) (As := [.int (xs (x3 + 1).toNatClampNeg), .int (xs (x3 + 2).toNatClampNeg), .int (xs (x3 + 3).toNatClampNeg), .int 1]) (rest := [.int r]) S hK2 trivial (fun i j hi hj => (hdis j i hj hi).symm) hin2 (c_fX11_list hj2 τ H.size (xs (x3 + 1).toNatClampNeg) (xs (x3 + 2).toNatClampNeg) (xs (x3 + 3).toNatClampNeg) 1 hm) oM_0 rfl gv_RL_139 (by decide +kernel) ⟨rfl, rfl, by decide, by decide⟩ rfl rfl (Nat.le_of_ble_eq_true rfl) dL_law_1203 hcs hPm hP hS hl.1 (fun H locs hPm hP hS => ?_)
    exact lv_icmp_eq (tgt := 1264) hx hb dL_law_1206 (by decide) (fun _ => hnx σ1 τ1 H locs hR1 hP hPm hS) (fun c2 => absurd rfl c2)
def op_29 (Rel : St → St → Prop) : Prop := ∀ (σ τ : St) (a0 a1 a2 a3 : Int32), Rel σ τ → ∃ r τ1, fX10_risk σ a0 a1 a2 a3 = some r ∧ fX11_risk τ a0 a1 a2 a3 = some (r, τ1) ∧ Rel σ τ1
set_option maxHeartbeats 4000000 in
theorem lc_29 (Rel : St → St → Prop) (hop : op_29 Rel) {p : Program} {l : Launch} {e : Env} {s : State} {m : MethodId} {below : List Frame} {meth : Method} {c : Code} {E1 E2 : Ev} {b L : Nat} {xs : Nat → Int32} {cells slots : Nat} {Q : State → Prop} (C : LC E1 E2 p s m c b L xs) (hcs : cells ≤ room_1.cells ∧ slots ≤ room_1.slots) (x3 : Int32) (h1 : vp_in (x3 + 1) L) (h2 : vp_in (x3 + 2) L) (h3 : vp_in (x3 + 3) L) (h4 : vp_in (x3 + 4) L) (h5 : vp_in (x3 + 5) L) (σ τ : St) (hRel : Rel σ τ) (H : Heap) (locs : List Loc) (ls : Array Slot) (hP : va_P (eD E1) vwCl (wd true E1 σ) H) (hPm : va_P (eD E2) vwCl (wd false E2 τ) H) (hS : va_S (fun q => s.heap.size ≤ q) s.heap H locs) (hl : lv_has ls 4 [(0, .ref b), (1, .ref (ea E1 0)), (2, .ref (ea E2 0)), (3, .int x3)]) (hnx : (∀ (σ τ : St) (H : Heap) (locs : List Loc), Rel σ τ → va_P (eD E1) vwCl (wd true E1 σ) H → va_P (eD E2) vwCl (wd false E2 τ) H → va_S (fun q => s.heap.size ≤ q) s.heap H locs → W p l e room_1 s m #[Value.ref b] below meth c H locs cells slots Q (F0 m 1264 ls []))) : W p l e room_1 s m #[Value.ref b] below meth c H locs cells slots Q (F0 m 1211 ls []) := by
  obtain ⟨S, hXs, hbl, ⟨hK1, hK2⟩, hX, ⟨hj1, hj2⟩, hdis, hin1, hin2⟩ := C
  have hbA : ¬ (fun q : Nat => s.heap.size ≤ q) b := Nat.not_le.mpr hbl
  obtain ⟨hx, hb, hml, hown, hts⟩ := id S
  refine lv_aload_n hx hb dL_law_1211 rfl (lv_at hl 1 rfl) ?_
  refine lv_aload_n hx hb dL_law_1212 rfl (lv_at hl 0 rfl) ?_
  refine lv_iload_n hx hb dL_law_1213 rfl (lv_at hl 3 rfl) ?_
  refine lv_iconst (v := 1) hx hb dL_law_1214 (by decide) ?_
  refine lv_iadd hx hb dL_law_1215 ?_
  refine va_sld hx hb hXs hbl hbA hS h1 dL_law_1216 ?_
  refine lv_aload_n hx hb dL_law_1217 rfl (lv_at hl 0 rfl) ?_
  refine lv_iload_n hx hb dL_law_1218 rfl (lv_at hl 3 rfl) ?_
  refine lv_iconst (v := 2) hx hb dL_law_1219 (by decide) ?_
  refine lv_iadd hx hb dL_law_1220 ?_
  refine va_sld hx hb hXs hbl hbA hS h2 dL_law_1221 ?_
  refine lv_aload_n hx hb dL_law_1222 rfl (lv_at hl 0 rfl) ?_
  refine lv_iload_n hx hb dL_law_1223 rfl (lv_at hl 3 rfl) ?_
  refine lv_iconst (v := 3) hx hb dL_law_1224 (by decide) ?_
  refine lv_iadd hx hb dL_law_1225 ?_
  refine va_sld hx hb hXs hbl hbA hS h3 dL_law_1226 ?_
  refine lv_aload_n hx hb dL_law_1227 rfl (lv_at hl 0 rfl) ?_
  refine lv_iload_n hx hb dL_law_1228 rfl (lv_at hl 3 rfl) ?_
  refine lv_iconst (v := 4) hx hb dL_law_1229 (by decide) ?_
  refine lv_iadd hx hb dL_law_1230 ?_
  refine va_sld hx hb hXs hbl hbA hS h4 dL_law_1231 ?_
  obtain ⟨r, τ1, hc, hm, hR1⟩ := hop σ τ (xs (x3 + 1).toNatClampNeg) (xs (x3 + 2).toNatClampNeg) (xs (x3 + 3).toNatClampNeg) (xs (x3 + 4).toNatClampNeg) hRel
  refine w_call (z := true) (zo := false) (E' := E2) (n := 4) (As := [.int (xs (x3 + 1).toNatClampNeg), .int (xs (x3 + 2).toNatClampNeg), .int (xs (x3 + 3).toNatClampNeg), .int (xs (x3 + 4).toNatClampNeg)]) (rest := []) S hK1 hX hdis hin1 (c_fX10_risk hj1 σ H.size (xs (x3 + 1).toNatClampNeg) (xs (x3 + 2).toNatClampNeg) (xs (x3 + 3).toNatClampNeg) (xs (x3 + 4).toNatClampNeg) hc) oC_0 rfl gv_RL_140 (by decide +kernel) ⟨rfl, rfl, by decide, by decide⟩ rfl rfl (Nat.le_of_ble_eq_true rfl) dL_law_1232 hcs hP hPm hS hl.1 (fun H locs hP hPm hS => ?_)
  refine lv_aload_n hx hb dL_law_1235 rfl (lv_at hl 2 rfl) ?_
  refine lv_aload_n hx hb dL_law_1236 rfl (lv_at hl 0 rfl) ?_
  refine lv_iload_n hx hb dL_law_1237 rfl (lv_at hl 3 rfl) ?_
  refine lv_iconst (v := 1) hx hb dL_law_1238 (by decide) ?_
  refine lv_iadd hx hb dL_law_1239 ?_
  refine va_sld hx hb hXs hbl hbA hS h1 dL_law_1240 ?_
  refine lv_aload_n hx hb dL_law_1241 rfl (lv_at hl 0 rfl) ?_
  refine lv_iload_n hx hb dL_law_1242 rfl (lv_at hl 3 rfl) ?_
  refine lv_iconst (v := 2) hx hb dL_law_1243 (by decide) ?_
  refine lv_iadd hx hb dL_law_1244 ?_
  refine va_sld hx hb hXs hbl hbA hS h2 dL_law_1245 ?_
  refine lv_aload_n hx hb dL_law_1246 rfl (lv_at hl 0 rfl) ?_
  refine lv_iload_n hx hb dL_law_1247 rfl (lv_at hl 3 rfl) ?_
  refine lv_iconst (v := 3) hx hb dL_law_1248 (by decide) ?_
  refine lv_iadd hx hb dL_law_1249 ?_
  refine va_sld hx hb hXs hbl hbA hS h3 dL_law_1250 ?_
  refine lv_aload_n hx hb dL_law_1251 rfl (lv_at hl 0 rfl) ?_
  refine lv_iload_n hx hb dL_law_1252 rfl (lv_at hl 3 rfl) ?_
  refine lv_iconst (v := 4) hx hb dL_law_1253 (by decide) ?_
  refine lv_iadd hx hb dL_law_1254 ?_
  refine va_sld hx hb hXs hbl hbA hS h4 dL_law_1255 ?_
  refine w_call (z := false) (zo := true) (E' := E1) (n := 4) (As := [.int (xs (x3 + 1).toNatClampNeg), .int (xs (x3 + 2).toNatClampNeg), .int (xs (x3 + 3).toNatClampNeg), .int (xs (x3 + 4).toNatClampNeg)]) (rest := [.int r]) S hK2 trivial (fun i j hi hj => (hdis j i hj hi).symm) hin2 (c_fX11_risk hj2 τ H.size (xs (x3 + 1).toNatClampNeg) (xs (x3 + 2).toNatClampNeg) (xs (x3 + 3).toNatClampNeg) (xs (x3 + 4).toNatClampNeg) hm) oM_0 rfl gv_RL_144 (by decide +kernel) ⟨rfl, rfl, by decide, by decide⟩ rfl rfl (Nat.le_of_ble_eq_true rfl) dL_law_1256 hcs hPm hP hS hl.1 (fun H locs hPm hP hS => ?_)
  exact lv_icmp_eq (tgt := 1264) hx hb dL_law_1259 (by decide) (fun _ => hnx σ τ1 H locs hR1 hP hPm hS) (fun c2 => absurd rfl c2)
