/-! constructors: worlds as lists that grow -/
def nestX (U : State) : Prop := ∀ q ∈ nestD, va_Nw (.methodLinkNest q.1 q.2.1 q.2.2.1 q.2.2.2) U
def tyK (cI cZ : ClassId) : List (ClassId × FieldType) := [(cI, .int), (cZ, .boolean)]
def preK (D : va_G) (cI cZ : ClassId) (ws : va_W) (sz : Nat) (U : State) : Prop := U.heap.size = sz ∧ va_P D vwCl ws U.heap ∧ va_K D vwCl (tyK cI cZ) U ∧ va_D (fun _ => True) ws ∧ nestX U
theorem preK_bl {D : va_G} {cI cZ : ClassId} {ws : va_W} {sz : Nat} {av : List Value} : FrameBlind (va_Pc av (preK D cI cZ ws sz)) := fun a U g mk q => by
  obtain ⟨q0, q1, q2, q3, q4, q5⟩ := q
  exact ⟨q0, q1, q2, va_K.moved (u := U) (U := U.calling g mk a) (Vm.Alike.refl U.vm) q3, q4, fun q hq => va_Nw.same rfl rfl (q5 q hq)⟩
def postK (D : va_G) (wl : (Nat → Nat) → va_W) (A : Nat → Prop) (u : Nat → Nat) (t : State) : Prop := va_P D vwCl (wl u) t.heap ∧ va_D A (wl u)
def uof (l : List Nat) : Nat → Nat := fun k => l.getD k 0
def CK (D : va_G) (cI cZ : ClassId) (own : String) (cc : ByteArray) (nL : Nat) (p : Program) (s : State) (m : MethodId) (args : Array Value) (meth : Method) (c : Code) : Prop :=
  p.tables.exec = Jvm.exec ∧ c.code = cc ∧ meth.sig.returnType = none ∧ c.maxLocals = nL ∧ s.vm.findClass own = some m.cls ∧ (∀ w ∈ gT, w.before args s = true) ∧ meth.locks = false ∧ va_K D vwCl (tyK cI cZ) s ∧ nestX s ∧ meth.name = "<init>"
section KR
variable {D : va_G} {cI cZ : ClassId} {own : String} {cc : ByteArray} {nL : Nat} {p : Program} {l : Launch} {e : Env} {R : Room} {s : State} {m : MethodId} {args : Array Value} {below : List Frame} {meth : Method} {c : Code} {H : Heap} {locs : List Loc} {Q : State → Prop} {pc : Nat} {ls : Array Slot} {rest : List Value} {cells slots : Nat} {A : Nat → Prop} {ws : va_W}
theorem k_entry {y : MethodName} {rm : Room} {sz mc ms : Nat} (Qc : Nat → Array Value → State → Outcome → State → Prop) (ws0 : va_W) (hy : plainName y.cls = true) (hi : y.name = "<init>") (av : List Value) (hlen : (lg_sl av).length ≤ nL)
    (body : ∀ (p : Program) (e : Env) (s : State) (m : MethodId) (args : Array Value) (below : List Frame) (meth : Method) (c : Code) (ls : Array Slot), CK D cI cZ y.cls cc nL p s m args meth c → va_P D vwCl ws0 s.heap → va_D (va_A ws0 s.heap.size) ws0 → lv_has ls nL (lv_args 0 av) → W p l e rm s m args below meth c s.heap [] 0 0 (MQ below (Qc s.heap.size) args s mc ms (va_A ws0 s.heap.size)) (F0 m 0 ls [])) :
    Met l y (Cond.code y cc nL none :: gT) rm (va_Pc av (preK D cI cZ ws0 sz)) (Qc sz) mc ms (va_A ws0 sz) := by
  refine Met.ofW (cc := cc) (maxL := nL) (ret := none) hy rfl ?_
  intro p e s m args below meth c s₁ B hml hv
  obtain ⟨rfl, hsz, hP, hK, hD, hN⟩ := hv
  have hts := atoms_spec (ws := Cond.code y cc nL none :: gT) B.pre
  subst hsz
  have hl := lv_entry av (n := nL) hlen
  rw [lg_entry_eq]
  exact body p e s m av.toArray below meth c _ ⟨B.exec, B.bytes, B.returns, hml, findClass_of_methodNamed B.named, fun w hw => hts w (List.mem_cons_of_mem _ hw), B.notSynchronized, hK, hN, by rw [← hi]; exact (name_of_methodNamed B.named B.method).1⟩ hP hD.self hl
theorem k_newI (C : CK D cI cZ own cc nL p s m args meth c) (harr : Cond.arrayClass .int ∈ gT) (hP : va_P D vwCl ws H) (hD : va_D A ws) (hS : va_S A s.heap H locs) (hA : ∀ q, s.heap.size ≤ q → A q) {n : Int32} {N : Nat} (hn : ¬ n < 0) (hN : n.toNatClampNeg = N) (hb : N * 4 ≤ 536870912) (hcells : cells + 1 ≤ R.cells) (hslots : slots + N ≤ R.slots) (hdg : decode cc pc = .ok (.newarray .int, 2))
    (kk : ∀ (q : Nat) (H : Heap), va_P D vwCl (ws ++ [(q, .inl (cI, (N, .inl (fun _ => 0))))]) H → va_D A (ws ++ [(q, .inl (cI, (N, .inl (fun _ => 0))))]) → va_S A s.heap H locs → W p l e R s m args below meth c H locs (cells + 1) (slots + N) Q (F0 m (pc + 2) ls (.ref q :: rest))) : W p l e R s m args below meth c H locs cells slots Q (F0 m pc ls (.int n :: rest)) := by
  obtain ⟨hx, hbb, hr, hml, hown, hts, hlk, hK, hX, hin⟩ := C
  refine va_newa (atype := .int) (a0 := (N, .inl (fun _ => 0))) (ty := .int) hx hbb (hts _ harr) rfl hK hP hD hS hA (fun _ => rfl) hn hN hb hcells hslots hdg (fun q cA H1 hK1 hP1 hD1 hS1 => ?_)
  have e1 := va_nm_int (hK1.2 2 (cA, .int) rfl).2
  have e2 := va_nm_int (hK.2 0 (cI, .int) rfl).2
  have e3 : cA = cI := Option.some.inj (e1.symm.trans e2)
  subst e3
  exact kk q H1 hP1 hD1 hS1
theorem k_newZ (C : CK D cI cZ own cc nL p s m args meth c) (harr : Cond.arrayClass .boolean ∈ gT) (hP : va_P D vwCl ws H) (hD : va_D A ws) (hS : va_S A s.heap H locs) (hA : ∀ q, s.heap.size ≤ q → A q) {n : Int32} {N : Nat} (hn : ¬ n < 0) (hN : n.toNatClampNeg = N) (hb : N * 1 ≤ 536870912) (hcells : cells + 1 ≤ R.cells) (hslots : slots + N ≤ R.slots) (hdg : decode cc pc = .ok (.newarray .boolean, 2))
    (kk : ∀ (q : Nat) (H : Heap), va_P D vwCl (ws ++ [(q, .inl (cZ, (N, .inl (fun _ => 0))))]) H → va_D A (ws ++ [(q, .inl (cZ, (N, .inl (fun _ => 0))))]) → va_S A s.heap H locs → W p l e R s m args below meth c H locs (cells + 1) (slots + N) Q (F0 m (pc + 2) ls (.ref q :: rest))) : W p l e R s m args below meth c H locs cells slots Q (F0 m pc ls (.int n :: rest)) := by
  obtain ⟨hx, hbb, hr, hml, hown, hts, hlk, hK, hX, hin⟩ := C
  refine va_newa (atype := .boolean) (a0 := (N, .inl (fun _ => 0))) (ty := .boolean) hx hbb (hts _ harr) rfl hK hP hD hS hA (fun _ => rfl) hn hN hb hcells hslots hdg (fun q cA H1 hK1 hP1 hD1 hS1 => ?_)
  have e1 := va_nm_boolean (hK1.2 2 (cA, .boolean) rfl).2
  have e2 := va_nm_boolean (hK.2 1 (cZ, .boolean) rfl).2
  have e3 : cA = cZ := Option.some.inj (e1.symm.trans e2)
  subst e3
  exact kk q H1 hP1 hD1 hS1
theorem k_ast (C : CK D cI cZ own cc nL p s m args meth c) {wr : va_W} {a n : Nat} {f : Nat → Int32} (hP : va_P D vwCl (wr ++ [(a, .inl (cI, (n, .inl f)))]) H) (hD : va_D A (wr ++ [(a, .inl (cI, (n, .inl f)))])) (hS : va_S A s.heap H locs) {j : Nat} {i x : Int32} (hi : i = nI j) (hj : j < n) (hn : n < 2147483648) (hdg : decode cc pc = .ok (.iastore, 1))
    (kk : ∀ (g : Nat → Int32) (H : Heap) (locs : List Loc), g = upd f j x → va_P D vwCl (wr ++ [(a, .inl (cI, (n, .inl g)))]) H → va_D A (wr ++ [(a, .inl (cI, (n, .inl g)))]) → va_S A s.heap H locs → W p l e R s m args below meth c H locs cells slots Q (F0 m (pc + 1) ls rest)) : W p l e R s m args below meth c H locs cells slots Q (F0 m pc ls (.int x :: .int i :: .ref a :: rest)) := by
  obtain ⟨hx, hbb, hr, hml, hown, hts, hlk, hK, hX, hin⟩ := C
  have he : (wr ++ [(a, Sum.inl (cI, (n, Sum.inl f)))])[wr.length]? = some (a, (Sum.inl (cI, (n, Sum.inl f)) : va_E)) := by simp
  refine va_iast hx hbb hK hP hD hS wr.length 0 he rfl (by rw [hi]; exact vp_in_nI hj hn) hdg (fun H1 locs1 hP1 hD1 hS1 => ?_)
  have e2 : i.toNatClampNeg = j := by rw [hi]; exact nI_clamp (by omega)
  rw [e2] at hP1 hD1
  have e3 : ∀ y : Nat × va_E, (wr ++ [(a, Sum.inl (cI, (n, Sum.inl f)))]).set wr.length y = wr ++ [y] := fun y => by simp
  rw [e3] at hP1 hD1
  exact kk _ H1 locs1 rfl hP1 hD1 hS1
theorem k_preI {As : List Value} {wc : va_W} (hK : va_K D vwCl (tyK cI cZ) s) (hX : nestX s) (hP : va_P D vwCl wc H) (hD : va_D (fun _ => True) wc) : ∀ U : State, U.heap = H → s.WarmedH U.vm → va_Pc As (preK D cI cZ wc H.size) As.toArray U := by
  exact fun U hU hW => ⟨rfl, by rw [hU], by rw [hU]; exact hP, va_K.moved hW.alike hK, hD, fun q hq => va_Nw.warmM hW (hX q hq)⟩
variable {y : MethodName} {bytes : ByteArray} {maxL n index mc ms b : Nat} {rm : Room} {As st0 : List Value} {host : String} {wl : (Nat → Nat) → va_W} {wc wr : va_W}
/-- a constructor of a class of ours, by its own link (hcw) -/
theorem k_call (S : CallFix p m c cc nL s args gT own) (hK : va_K D vwCl (tyK cI cZ) s) (hX : nestX s) (hM : Met l y (Cond.code y bytes maxL none :: gT) rm (va_Pc (.ref b :: As) (preK D cI cZ wc H.size)) (va_Qv (fun u : Nat → Nat => u 0 = b) (postK D wl (va_A wc H.size)) (va_A wc H.size)) mc ms (va_A wc H.size)) (hcw : (Cond.methodLink own index y ∈ gT) ∨ ((own, index, y, host) ∈ nestD)) (hcode : Cond.code y bytes maxL none ∈ gT) (hini : Cond.initialized y.cls ∈ gT) (hinst : Cond.instanceMethod y ∈ gT) (hy1 : y.name = "<init>") (hd : y.cls ≠ "java/lang/invoke/MethodHandle" ∧ y.cls ≠ "java/lang/invoke/VarHandle" ∧ (parseMethodDescriptor y.desc).map (fun d => d.parameters.length) = some n) (hR : rm.cells = mc ∧ rm.slots = ms ∧ rm.frames + 1 ≤ R.frames ∧ 8 + (maxL + 11) + rm.locals ≤ R.locals) (hn : As.length = n) (hst : st0 = As.reverse ++ .ref b :: rest) (hW : (rest.map fun v => v.category).sum ≤ 8) (hdg : decode cc pc = .ok (.invokespecial index, 3)) (hf : cells + mc ≤ R.cells ∧ slots + ms ≤ R.slots) (hl : ls.size = nL)
    (hP : va_P D vwCl ws H) (hD : va_D A ws) (hS : va_S A s.heap H locs) (hA : ∀ q, s.heap.size ≤ q → A q) (isC isR : List Nat) (hC : isC.map (fun i => ws[i]?) = wc.map some) (hCR : isR.map (fun i => ws[i]?) = wr.map some) (hnd : va_nd isR = true) (hndC : va_nd isC = true) (hdis : ∀ i ∈ isR, i ∉ isC) (hPs : isC.filterMap (fun i => ws[i]?) = wc)
    (kk : ∀ (u : Nat → Nat) (H : Heap) (locs : List Loc), u 0 = b → va_P D vwCl (wr ++ wl u) H → va_D A (wr ++ wl u) → va_S A s.heap H locs → W p l e R s m args below meth c H locs (cells + mc) (slots + ms) Q (F0 m (pc + 3) ls rest)) : W p l e R s m args below meth c H locs cells slots Q (F0 m pc ls st0) := by
  have S0 := S
  obtain ⟨hx, hb, hml, hown, hts⟩ := S
  have hPc := hP.sub isC hPs
  have hDc := hD.sub isC hndC hC
  have hFc := va_free (wc := wc) hD hS hA isC hC
  have fin : ∀ (u : Nat → Nat) (t : State) (H1 : Heap) (locs1 : List Loc), t.heap = H1 → s.vm.Alike t.vm → u 0 = b → postK D wl (va_A wc H.size) u t → H.size ≤ H1.size → (∀ q : Nat, q < H.size → ¬ va_A wc H.size q → H1[q]? = H[q]?) → va_S A s.heap H1 locs1 → W p l e R s m args below meth c H1 locs1 (cells + mc) (slots + ms) Q (F0 m (pc + 3) ls rest) := by
    intro u t H1 locs1 ht hvm hw hB hz1 hk1 hS1
    obtain ⟨hP1, hD1⟩ := hB
    rw [ht] at hP1
    obtain ⟨hP2, hD2⟩ := va_join hP hD isC isR hC hCR hnd hdis hk1 hFc hP1 hD1
    exact kk u H1 locs1 hw hP2 hD2 hS1
  rcases hcw with hlink | hq
  · exact va_callv (va_runI (As := As) (rest := rest) ⟨hx, hb, hml, hown, hts⟩ hM (cwI n hts (gT_C hcode) rfl hR.1 hR.2.1 (hts _ hini) (hts _ hlink) (hts _ hinst) hy1 hd hR.2.2) ⟨preK_bl, k_preI hK hX hPc (hDc.weaken (fun _ _ _ _ => trivial))⟩ rfl hn hl hst (lv_room hW) hdg hf) hS (fun q _ h => hFc q h) hFc fin
  · exact va_callv (va_runIN (As := As) (rest := rest) (host := host) ⟨hx, hb, hml, hown, hts⟩ hM ⟨va_cnB n hts (gT_C hcode) rfl hR.1 hR.2.1 (hX _ hq) (hts _ hini) hd hR.2.2, hy1, hts _ hinst⟩ ⟨preK_bl, k_preI hK hX hPc (hDc.weaken (fun _ _ _ _ => trivial))⟩ rfl hn hl hst (lv_room hW) hdg hf) hS (fun q _ h => hFc q h) hFc fin
end KR
def wl_X7_init (cI cZ : ClassId) (u : Nat → Nat) : va_W := [((u 0), .inr (7, [.ref (u 1), .ref (u 2)])), ((u 1), .inl (cI, (30, .inl (fun _ => 0)))), ((u 2), .inl (cI, (30, .inl (fun _ => 0))))]
set_option maxHeartbeats 8000000 in
set_option maxRecDepth 20000 in
theorem k_X7_init {l : Launch} {D : va_G} {cI cZ : ClassId} (h0 sz : Nat) : Met l yX7_init (Cond.code yX7_init cX7_init 1 none :: gT) { frames := 1, cells := 2, slots := 60, locals := 60 } (va_Pc [.ref h0] (preK D cI cZ [(h0, .inr (7, [.null, .null]))] sz)) (va_Qv (fun u : Nat → Nat => u 0 = h0) (postK D (wl_X7_init cI cZ) (va_A [(h0, .inr (7, [.null, .null]))] sz)) (va_A [(h0, .inr (7, [.null, .null]))] sz)) 2 60 (va_A [(h0, .inr (7, [.null, .null]))] sz) := by
  refine k_entry (y := yX7_init) (cc := cX7_init) (nL := 1) (fun sz => va_Qv (fun u : Nat → Nat => u 0 = h0) (postK D (wl_X7_init cI cZ) (va_A [(h0, .inr (7, [.null, .null]))] sz)) (va_A [(h0, .inr (7, [.null, .null]))] sz)) [(h0, .inr (7, [.null, .null]))] (by decide) rfl [.ref h0] (Nat.le_of_ble_eq_true rfl) (fun p e s m args below meth c ls C hP hD hl => ?_)
  have hl : lv_has ls 1 [(0, .ref h0)] := hl
  obtain ⟨hx, hb, hr, hml, hown, hts, hlocks, hK, hN, hin⟩ := id C
  show W p l e _ s m args below meth c s.heap [] 0 0 (MQ below (va_Qv (fun u : Nat → Nat => u 0 = h0) (postK D (wl_X7_init cI cZ) (va_A [(h0, .inr (7, [.null, .null]))] s.heap.size)) (va_A [(h0, .inr (7, [.null, .null]))] s.heap.size)) args s 2 60 (va_A [(h0, .inr (7, [.null, .null]))] s.heap.size)) _
  generalize hAe : va_A [(h0, .inr (7, [.null, .null]))] s.heap.size = A at hD ⊢
  have hA : ∀ q : Nat, s.heap.size ≤ q → A q := fun q h => by rw [← hAe]; exact Or.inr h
  have hS : va_S A s.heap s.heap [] := va_S.rf
  refine lv_aload_n hx hb dX7_init_0 rfl (lv_at hl 0 rfl) ?_
  refine W.objInit hx hb hown (hts _ wm_t34) (hts _ wm_t27) (hts _ wm_t28) rfl (by rw [hml]; exact hl.1) rfl dX7_init_1 (Nat.le_of_ble_eq_true rfl) (Nat.le_of_ble_eq_true rfl) ?_
  refine W.eq (g2 := F0 m 4 ls []) rfl ?_
  refine lv_aload_n hx hb dX7_init_4 rfl (lv_at hl 0 rfl) ?_
  refine lv_bipush (v := 30) hx hb dX7_init_5 (by decide) ?_
  refine k_newI (N := 30) C wm_t42 hP hD hS hA (by decide) (by decide) (by decide) (by decide) (by decide) dX7_init_7 (fun q1 H hP hD hS => ?_)
  have hP : va_P D vwCl [(h0, .inr (7, [.null, .null])), (q1, .inl (cI, (30, .inl (fun _ => 0))))] H := hP
  have hD : va_D A [(h0, .inr (7, [.null, .null])), (q1, .inl (cI, (30, .inl (fun _ => 0))))] := hD
  refine W.widen (k := 1) (n := 30) (by omega) (by omega) ?_
  refine va_putF (D := D) (ci := 7) (v := .ref q1) (ty := (.array .int)) (C := RX7) (T := TX7) (N := 2) hx hb hts iX7 tyX7 tyX7_ok nmX7 hown hK hP hD hS 0 rfl rfl 0 (by decide) (hts _ wm_t35) (fun _ h9 => h9) rfl hin rfl (by decide +kernel) rfl rfl (Nat.le_of_ble_eq_true rfl) dX7_init_9 (fun H locs hP hD hS => ?_)
  have hP : va_P D vwCl [(h0, .inr (7, [.ref q1, .null])), (q1, .inl (cI, (30, .inl (fun _ => 0))))] H := hP
  have hD : va_D A [(h0, .inr (7, [.ref q1, .null])), (q1, .inl (cI, (30, .inl (fun _ => 0))))] := hD
  refine lv_aload_n hx hb dX7_init_12 rfl (lv_at hl 0 rfl) ?_
  refine lv_bipush (v := 30) hx hb dX7_init_13 (by decide) ?_
  refine k_newI (N := 30) C wm_t42 hP hD hS hA (by decide) (by decide) (by decide) (by decide) (by decide) dX7_init_15 (fun q2 H hP hD hS => ?_)
  have hP : va_P D vwCl [(h0, .inr (7, [.ref q1, .null])), (q1, .inl (cI, (30, .inl (fun _ => 0)))), (q2, .inl (cI, (30, .inl (fun _ => 0))))] H := hP
  have hD : va_D A [(h0, .inr (7, [.ref q1, .null])), (q1, .inl (cI, (30, .inl (fun _ => 0)))), (q2, .inl (cI, (30, .inl (fun _ => 0))))] := hD
  refine W.widen (k := 2) (n := 60) (by omega) (by omega) ?_
  refine va_putF (D := D) (ci := 7) (v := .ref q2) (ty := (.array .int)) (C := RX7) (T := TX7) (N := 2) hx hb hts iX7 tyX7 tyX7_ok nmX7 hown hK hP hD hS 0 rfl rfl 1 (by decide) (hts _ wm_t36) (fun _ h9 => h9) rfl hin rfl (by decide +kernel) rfl rfl (Nat.le_of_ble_eq_true rfl) dX7_init_17 (fun H locs hP hD hS => ?_)
  have hP : va_P D vwCl [(h0, .inr (7, [.ref q1, .ref q2])), (q1, .inl (cI, (30, .inl (fun _ => 0)))), (q2, .inl (cI, (30, .inl (fun _ => 0))))] H := hP
  have hD : va_D A [(h0, .inr (7, [.ref q1, .ref q2])), (q1, .inl (cI, (30, .inl (fun _ => 0)))), (q2, .inl (cI, (30, .inl (fun _ => 0))))] := hD
  refine W.widen (k := 2) (n := 60) (by omega) (by omega) ?_
  exact W.vret hx hb hr (fun t ht hW => ⟨⟨(uof [h0, q1, q2]), rfl, rfl, by show va_P _ _ _ t.heap; rw [ht]; exact hP, hD⟩, hS.F ht⟩) hS.2.2 dX7_init_20 hlocks

def wl_X8_initP (cI cZ : ClassId) (u : Nat → Nat) : va_W := [((u 0), .inr (8, [.int 64, .int 4, .int 1, .ref (u 1), .ref (u 2), .ref (u 3), .ref (u 4), .int 0])), ((u 1), .inl (cI, (256, .inl (fun _ => 0)))), ((u 2), .inl (cI, (256, .inl (fun _ => 0)))), ((u 3), .inl (cI, (256, .inl (fun _ => 0)))), ((u 4), .inl (cI, (256, .inl (fun _ => 0))))]
set_option maxHeartbeats 8000000 in
set_option maxRecDepth 20000 in
theorem k_X8_initP {l : Launch} {D : va_G} {cI cZ : ClassId} (h0 sz : Nat) : Met l yX8_init (Cond.code yX8_init cX8_init 5 none :: gT) { frames := 1, cells := 4, slots := 1024, locals := 60 } (va_Pc [.ref h0, .int 64, .int 4, .int 1] (preK D cI cZ [(h0, .inr (8, [.int 0, .int 0, .int 0, .null, .null, .null, .null, .int 0]))] sz)) (va_Qv (fun u : Nat → Nat => u 0 = h0) (postK D (wl_X8_initP cI cZ) (va_A [(h0, .inr (8, [.int 0, .int 0, .int 0, .null, .null, .null, .null, .int 0]))] sz)) (va_A [(h0, .inr (8, [.int 0, .int 0, .int 0, .null, .null, .null, .null, .int 0]))] sz)) 4 1024 (va_A [(h0, .inr (8, [.int 0, .int 0, .int 0, .null, .null, .null, .null, .int 0]))] sz) := by
  refine k_entry (y := yX8_init) (cc := cX8_init) (nL := 5) (fun sz => va_Qv (fun u : Nat → Nat => u 0 = h0) (postK D (wl_X8_initP cI cZ) (va_A [(h0, .inr (8, [.int 0, .int 0, .int 0, .null, .null, .null, .null, .int 0]))] sz)) (va_A [(h0, .inr (8, [.int 0, .int 0, .int 0, .null, .null, .null, .null, .int 0]))] sz)) [(h0, .inr (8, [.int 0, .int 0, .int 0, .null, .null, .null, .null, .int 0]))] (by decide) rfl [.ref h0, .int 64, .int 4, .int 1] (Nat.le_of_ble_eq_true rfl) (fun p e s m args below meth c ls C hP hD hl => ?_)
  have hl : lv_has ls 5 [(0, .ref h0), (1, .int 64), (2, .int 4), (3, .int 1)] := hl
  obtain ⟨hx, hb, hr, hml, hown, hts, hlocks, hK, hN, hin⟩ := id C
  show W p l e _ s m args below meth c s.heap [] 0 0 (MQ below (va_Qv (fun u : Nat → Nat => u 0 = h0) (postK D (wl_X8_initP cI cZ) (va_A [(h0, .inr (8, [.int 0, .int 0, .int 0, .null, .null, .null, .null, .int 0]))] s.heap.size)) (va_A [(h0, .inr (8, [.int 0, .int 0, .int 0, .null, .null, .null, .null, .int 0]))] s.heap.size)) args s 4 1024 (va_A [(h0, .inr (8, [.int 0, .int 0, .int 0, .null, .null, .null, .null, .int 0]))] s.heap.size)) _
  generalize hAe : va_A [(h0, .inr (8, [.int 0, .int 0, .int 0, .null, .null, .null, .null, .int 0]))] s.heap.size = A at hD ⊢
  have hA : ∀ q : Nat, s.heap.size ≤ q → A q := fun q h => by rw [← hAe]; exact Or.inr h
  have hS : va_S A s.heap s.heap [] := va_S.rf
  refine lv_aload_n hx hb dX8_init_0 rfl (lv_at hl 0 rfl) ?_
  refine W.objInit hx hb hown (hts _ wm_t48) (hts _ wm_t27) (hts _ wm_t28) rfl (by rw [hml]; exact hl.1) rfl dX8_init_1 (Nat.le_of_ble_eq_true rfl) (Nat.le_of_ble_eq_true rfl) ?_
  refine W.eq (g2 := F0 m 4 ls []) rfl ?_
  refine lv_aload_n hx hb dX8_init_4 rfl (lv_at hl 0 rfl) ?_
  refine lv_iload_n hx hb dX8_init_5 rfl (lv_at hl 1 rfl) ?_
  refine va_putF (D := D) (ci := 8) (v := .int 64) (ty := .int) (C := RX8) (T := TX8) (N := 8) hx hb hts iX8 tyX8 tyX8_ok nmX8 hown hK hP hD hS 0 rfl rfl 0 (by decide) (hts _ wm_t52) (fun _ h9 => h9) rfl hin rfl (by decide +kernel) rfl rfl (Nat.le_of_ble_eq_true rfl) dX8_init_6 (fun H locs hP hD hS => ?_)
  have hP : va_P D vwCl [(h0, .inr (8, [.int 64, .int 0, .int 0, .null, .null, .null, .null, .int 0]))] H := hP
  have hD : va_D A [(h0, .inr (8, [.int 64, .int 0, .int 0, .null, .null, .null, .null, .int 0]))] := hD
  refine lv_aload_n hx hb dX8_init_9 rfl (lv_at hl 0 rfl) ?_
  refine lv_iload_n hx hb dX8_init_10 rfl (lv_at hl 2 rfl) ?_
  refine va_putF (D := D) (ci := 8) (v := .int 4) (ty := .int) (C := RX8) (T := TX8) (N := 8) hx hb hts iX8 tyX8 tyX8_ok nmX8 hown hK hP hD hS 0 rfl rfl 1 (by decide) (hts _ wm_t53) (fun _ h9 => h9) rfl hin rfl (by decide +kernel) rfl rfl (Nat.le_of_ble_eq_true rfl) dX8_init_11 (fun H locs hP hD hS => ?_)
  have hP : va_P D vwCl [(h0, .inr (8, [.int 64, .int 4, .int 0, .null, .null, .null, .null, .int 0]))] H := hP
  have hD : va_D A [(h0, .inr (8, [.int 64, .int 4, .int 0, .null, .null, .null, .null, .int 0]))] := hD
  refine lv_aload_n hx hb dX8_init_14 rfl (lv_at hl 0 rfl) ?_
  refine lv_iload_n hx hb dX8_init_15 rfl (lv_at hl 3 rfl) ?_
  refine va_putF (D := D) (ci := 8) (v := .int 1) (ty := .boolean) (C := RX8) (T := TX8) (N := 8) hx hb hts iX8 tyX8 tyX8_ok nmX8 hown hK hP hD hS 0 rfl rfl 2 (by decide) (hts _ wm_t54) (fun _ h9 => h9) rfl hin rfl (by decide +kernel) rfl rfl (Nat.le_of_ble_eq_true rfl) dX8_init_16 (fun H locs hP hD hS => ?_)
  have hP : va_P D vwCl [(h0, .inr (8, [.int 64, .int 4, .int 1, .null, .null, .null, .null, .int 0]))] H := hP
  have hD : va_D A [(h0, .inr (8, [.int 64, .int 4, .int 1, .null, .null, .null, .null, .int 0]))] := hD
  refine lv_iconst (v := 0) hx hb dX8_init_19 (by decide) ?_
  refine lv_iload_n hx hb dX8_init_20 rfl (lv_at hl 1 rfl) ?_
  refine lv_iload_n hx hb dX8_init_21 rfl (lv_at hl 2 rfl) ?_
  refine lv_imul hx hb dX8_init_22 ?_
  refine va_mmax hx hb (hml.trans hl.1.symm) hown (hts _ wm_t49) (hts _ wm_t50) (hts _ wm_t4) (hts _ wm_t51) (by decide) (Nat.le_of_ble_eq_true rfl) (by decide) (by decide) dX8_init_23 ?_
  refine W.eq (g2 := F0 m 26 ls [.int 256]) (by rfl) ?_
  refine lv_istore (lv' := [(4, .int 256), (0, .ref h0), (1, .int 64), (2, .int 4), (3, .int 1)]) hx hb dX8_init_26 hl (by decide) rfl (fun ls hl => ?_)
  refine lv_aload_n hx hb dX8_init_28 rfl (lv_at hl 1 rfl) ?_
  refine lv_iload hx hb dX8_init_29 (lv_at hl 0 rfl) ?_
  refine k_newI (N := 256) C wm_t42 hP hD hS hA (by decide) (by decide) (by decide) (by decide) (by decide) dX8_init_31 (fun q1 H hP hD hS => ?_)
  have hP : va_P D vwCl [(h0, .inr (8, [.int 64, .int 4, .int 1, .null, .null, .null, .null, .int 0])), (q1, .inl (cI, (256, .inl (fun _ => 0))))] H := hP
  have hD : va_D A [(h0, .inr (8, [.int 64, .int 4, .int 1, .null, .null, .null, .null, .int 0])), (q1, .inl (cI, (256, .inl (fun _ => 0))))] := hD
  refine W.widen (k := 1) (n := 256) (by omega) (by omega) ?_
  refine va_putF (D := D) (ci := 8) (v := .ref q1) (ty := (.array .int)) (C := RX8) (T := TX8) (N := 8) hx hb hts iX8 tyX8 tyX8_ok nmX8 hown hK hP hD hS 0 rfl rfl 3 (by decide) (hts _ wm_t55) (fun _ h9 => h9) rfl hin rfl (by decide +kernel) rfl rfl (Nat.le_of_ble_eq_true rfl) dX8_init_33 (fun H locs hP hD hS => ?_)
  have hP : va_P D vwCl [(h0, .inr (8, [.int 64, .int 4, .int 1, .ref q1, .null, .null, .null, .int 0])), (q1, .inl (cI, (256, .inl (fun _ => 0))))] H := hP
  have hD : va_D A [(h0, .inr (8, [.int 64, .int 4, .int 1, .ref q1, .null, .null, .null, .int 0])), (q1, .inl (cI, (256, .inl (fun _ => 0))))] := hD
  refine lv_aload_n hx hb dX8_init_36 rfl (lv_at hl 1 rfl) ?_
  refine lv_iload hx hb dX8_init_37 (lv_at hl 0 rfl) ?_
  refine k_newI (N := 256) C wm_t42 hP hD hS hA (by decide) (by decide) (by decide) (by decide) (by decide) dX8_init_39 (fun q2 H hP hD hS => ?_)
  have hP : va_P D vwCl [(h0, .inr (8, [.int 64, .int 4, .int 1, .ref q1, .null, .null, .null, .int 0])), (q1, .inl (cI, (256, .inl (fun _ => 0)))), (q2, .inl (cI, (256, .inl (fun _ => 0))))] H := hP
  have hD : va_D A [(h0, .inr (8, [.int 64, .int 4, .int 1, .ref q1, .null, .null, .null, .int 0])), (q1, .inl (cI, (256, .inl (fun _ => 0)))), (q2, .inl (cI, (256, .inl (fun _ => 0))))] := hD
  refine W.widen (k := 2) (n := 512) (by omega) (by omega) ?_
  refine va_putF (D := D) (ci := 8) (v := .ref q2) (ty := (.array .int)) (C := RX8) (T := TX8) (N := 8) hx hb hts iX8 tyX8 tyX8_ok nmX8 hown hK hP hD hS 0 rfl rfl 4 (by decide) (hts _ wm_t60) (fun _ h9 => h9) rfl hin rfl (by decide +kernel) rfl rfl (Nat.le_of_ble_eq_true rfl) dX8_init_41 (fun H locs hP hD hS => ?_)
  have hP : va_P D vwCl [(h0, .inr (8, [.int 64, .int 4, .int 1, .ref q1, .ref q2, .null, .null, .int 0])), (q1, .inl (cI, (256, .inl (fun _ => 0)))), (q2, .inl (cI, (256, .inl (fun _ => 0))))] H := hP
  have hD : va_D A [(h0, .inr (8, [.int 64, .int 4, .int 1, .ref q1, .ref q2, .null, .null, .int 0])), (q1, .inl (cI, (256, .inl (fun _ => 0)))), (q2, .inl (cI, (256, .inl (fun _ => 0))))] := hD
  refine lv_aload_n hx hb dX8_init_44 rfl (lv_at hl 1 rfl) ?_
  refine lv_iload hx hb dX8_init_45 (lv_at hl 0 rfl) ?_
  refine k_newI (N := 256) C wm_t42 hP hD hS hA (by decide) (by decide) (by decide) (by decide) (by decide) dX8_init_47 (fun q3 H hP hD hS => ?_)
  have hP : va_P D vwCl [(h0, .inr (8, [.int 64, .int 4, .int 1, .ref q1, .ref q2, .null, .null, .int 0])), (q1, .inl (cI, (256, .inl (fun _ => 0)))), (q2, .inl (cI, (256, .inl (fun _ => 0)))), (q3, .inl (cI, (256, .inl (fun _ => 0))))] H := hP
  have hD : va_D A [(h0, .inr (8, [.int 64, .int 4, .int 1, .ref q1, .ref q2, .null, .null, .int 0])), (q1, .inl (cI, (256, .inl (fun _ => 0)))), (q2, .inl (cI, (256, .inl (fun _ => 0)))), (q3, .inl (cI, (256, .inl (fun _ => 0))))] := hD
  refine W.widen (k := 3) (n := 768) (by omega) (by omega) ?_
  refine va_putF (D := D) (ci := 8) (v := .ref q3) (ty := (.array .int)) (C := RX8) (T := TX8) (N := 8) hx hb hts iX8 tyX8 tyX8_ok nmX8 hown hK hP hD hS 0 rfl rfl 5 (by decide) (hts _ wm_t63) (fun _ h9 => h9) rfl hin rfl (by decide +kernel) rfl rfl (Nat.le_of_ble_eq_true rfl) dX8_init_49 (fun H locs hP hD hS => ?_)
  have hP : va_P D vwCl [(h0, .inr (8, [.int 64, .int 4, .int 1, .ref q1, .ref q2, .ref q3, .null, .int 0])), (q1, .inl (cI, (256, .inl (fun _ => 0)))), (q2, .inl (cI, (256, .inl (fun _ => 0)))), (q3, .inl (cI, (256, .inl (fun _ => 0))))] H := hP
  have hD : va_D A [(h0, .inr (8, [.int 64, .int 4, .int 1, .ref q1, .ref q2, .ref q3, .null, .int 0])), (q1, .inl (cI, (256, .inl (fun _ => 0)))), (q2, .inl (cI, (256, .inl (fun _ => 0)))), (q3, .inl (cI, (256, .inl (fun _ => 0))))] := hD
  refine lv_aload_n hx hb dX8_init_52 rfl (lv_at hl 1 rfl) ?_
  refine lv_iload hx hb dX8_init_53 (lv_at hl 0 rfl) ?_
  refine k_newI (N := 256) C wm_t42 hP hD hS hA (by decide) (by decide) (by decide) (by decide) (by decide) dX8_init_55 (fun q4 H hP hD hS => ?_)
  have hP : va_P D vwCl [(h0, .inr (8, [.int 64, .int 4, .int 1, .ref q1, .ref q2, .ref q3, .null, .int 0])), (q1, .inl (cI, (256, .inl (fun _ => 0)))), (q2, .inl (cI, (256, .inl (fun _ => 0)))), (q3, .inl (cI, (256, .inl (fun _ => 0)))), (q4, .inl (cI, (256, .inl (fun _ => 0))))] H := hP
  have hD : va_D A [(h0, .inr (8, [.int 64, .int 4, .int 1, .ref q1, .ref q2, .ref q3, .null, .int 0])), (q1, .inl (cI, (256, .inl (fun _ => 0)))), (q2, .inl (cI, (256, .inl (fun _ => 0)))), (q3, .inl (cI, (256, .inl (fun _ => 0)))), (q4, .inl (cI, (256, .inl (fun _ => 0))))] := hD
  refine W.widen (k := 4) (n := 1024) (by omega) (by omega) ?_
  refine va_putF (D := D) (ci := 8) (v := .ref q4) (ty := (.array .int)) (C := RX8) (T := TX8) (N := 8) hx hb hts iX8 tyX8 tyX8_ok nmX8 hown hK hP hD hS 0 rfl rfl 6 (by decide) (hts _ wm_t65) (fun _ h9 => h9) rfl hin rfl (by decide +kernel) rfl rfl (Nat.le_of_ble_eq_true rfl) dX8_init_57 (fun H locs hP hD hS => ?_)
  have hP : va_P D vwCl [(h0, .inr (8, [.int 64, .int 4, .int 1, .ref q1, .ref q2, .ref q3, .ref q4, .int 0])), (q1, .inl (cI, (256, .inl (fun _ => 0)))), (q2, .inl (cI, (256, .inl (fun _ => 0)))), (q3, .inl (cI, (256, .inl (fun _ => 0)))), (q4, .inl (cI, (256, .inl (fun _ => 0))))] H := hP
  have hD : va_D A [(h0, .inr (8, [.int 64, .int 4, .int 1, .ref q1, .ref q2, .ref q3, .ref q4, .int 0])), (q1, .inl (cI, (256, .inl (fun _ => 0)))), (q2, .inl (cI, (256, .inl (fun _ => 0)))), (q3, .inl (cI, (256, .inl (fun _ => 0)))), (q4, .inl (cI, (256, .inl (fun _ => 0))))] := hD
  refine W.widen (k := 4) (n := 1024) (by omega) (by omega) ?_
  exact W.vret hx hb hr (fun t ht hW => ⟨⟨(uof [h0, q1, q2, q3, q4]), rfl, rfl, by show va_P _ _ _ t.heap; rw [ht]; exact hP, hD⟩, hS.F ht⟩) hS.2.2 dX8_init_60 hlocks

def wl_X8_initH (cI cZ : ClassId) (u : Nat → Nat) : va_W := [((u 0), .inr (8, [.int 24, .int 6, .int 0, .ref (u 1), .ref (u 2), .ref (u 3), .ref (u 4), .int 0])), ((u 1), .inl (cI, (144, .inl (fun _ => 0)))), ((u 2), .inl (cI, (144, .inl (fun _ => 0)))), ((u 3), .inl (cI, (144, .inl (fun _ => 0)))), ((u 4), .inl (cI, (144, .inl (fun _ => 0))))]
set_option maxHeartbeats 8000000 in
set_option maxRecDepth 20000 in
theorem k_X8_initH {l : Launch} {D : va_G} {cI cZ : ClassId} (h0 sz : Nat) : Met l yX8_init (Cond.code yX8_init cX8_init 5 none :: gT) { frames := 1, cells := 4, slots := 576, locals := 60 } (va_Pc [.ref h0, .int 24, .int 6, .int 0] (preK D cI cZ [(h0, .inr (8, [.int 0, .int 0, .int 0, .null, .null, .null, .null, .int 0]))] sz)) (va_Qv (fun u : Nat → Nat => u 0 = h0) (postK D (wl_X8_initH cI cZ) (va_A [(h0, .inr (8, [.int 0, .int 0, .int 0, .null, .null, .null, .null, .int 0]))] sz)) (va_A [(h0, .inr (8, [.int 0, .int 0, .int 0, .null, .null, .null, .null, .int 0]))] sz)) 4 576 (va_A [(h0, .inr (8, [.int 0, .int 0, .int 0, .null, .null, .null, .null, .int 0]))] sz) := by
  refine k_entry (y := yX8_init) (cc := cX8_init) (nL := 5) (fun sz => va_Qv (fun u : Nat → Nat => u 0 = h0) (postK D (wl_X8_initH cI cZ) (va_A [(h0, .inr (8, [.int 0, .int 0, .int 0, .null, .null, .null, .null, .int 0]))] sz)) (va_A [(h0, .inr (8, [.int 0, .int 0, .int 0, .null, .null, .null, .null, .int 0]))] sz)) [(h0, .inr (8, [.int 0, .int 0, .int 0, .null, .null, .null, .null, .int 0]))] (by decide) rfl [.ref h0, .int 24, .int 6, .int 0] (Nat.le_of_ble_eq_true rfl) (fun p e s m args below meth c ls C hP hD hl => ?_)
  have hl : lv_has ls 5 [(0, .ref h0), (1, .int 24), (2, .int 6), (3, .int 0)] := hl
  obtain ⟨hx, hb, hr, hml, hown, hts, hlocks, hK, hN, hin⟩ := id C
  show W p l e _ s m args below meth c s.heap [] 0 0 (MQ below (va_Qv (fun u : Nat → Nat => u 0 = h0) (postK D (wl_X8_initH cI cZ) (va_A [(h0, .inr (8, [.int 0, .int 0, .int 0, .null, .null, .null, .null, .int 0]))] s.heap.size)) (va_A [(h0, .inr (8, [.int 0, .int 0, .int 0, .null, .null, .null, .null, .int 0]))] s.heap.size)) args s 4 576 (va_A [(h0, .inr (8, [.int 0, .int 0, .int 0, .null, .null, .null, .null, .int 0]))] s.heap.size)) _
  generalize hAe : va_A [(h0, .inr (8, [.int 0, .int 0, .int 0, .null, .null, .null, .null, .int 0]))] s.heap.size = A at hD ⊢
  have hA : ∀ q : Nat, s.heap.size ≤ q → A q := fun q h => by rw [← hAe]; exact Or.inr h
  have hS : va_S A s.heap s.heap [] := va_S.rf
  refine lv_aload_n hx hb dX8_init_0 rfl (lv_at hl 0 rfl) ?_
  refine W.objInit hx hb hown (hts _ wm_t48) (hts _ wm_t27) (hts _ wm_t28) rfl (by rw [hml]; exact hl.1) rfl dX8_init_1 (Nat.le_of_ble_eq_true rfl) (Nat.le_of_ble_eq_true rfl) ?_
  refine W.eq (g2 := F0 m 4 ls []) rfl ?_
  refine lv_aload_n hx hb dX8_init_4 rfl (lv_at hl 0 rfl) ?_
  refine lv_iload_n hx hb dX8_init_5 rfl (lv_at hl 1 rfl) ?_
  refine va_putF (D := D) (ci := 8) (v := .int 24) (ty := .int) (C := RX8) (T := TX8) (N := 8) hx hb hts iX8 tyX8 tyX8_ok nmX8 hown hK hP hD hS 0 rfl rfl 0 (by decide) (hts _ wm_t52) (fun _ h9 => h9) rfl hin rfl (by decide +kernel) rfl rfl (Nat.le_of_ble_eq_true rfl) dX8_init_6 (fun H locs hP hD hS => ?_)
  have hP : va_P D vwCl [(h0, .inr (8, [.int 24, .int 0, .int 0, .null, .null, .null, .null, .int 0]))] H := hP
  have hD : va_D A [(h0, .inr (8, [.int 24, .int 0, .int 0, .null, .null, .null, .null, .int 0]))] := hD
  refine lv_aload_n hx hb dX8_init_9 rfl (lv_at hl 0 rfl) ?_
  refine lv_iload_n hx hb dX8_init_10 rfl (lv_at hl 2 rfl) ?_
  refine va_putF (D := D) (ci := 8) (v := .int 6) (ty := .int) (C := RX8) (T := TX8) (N := 8) hx hb hts iX8 tyX8 tyX8_ok nmX8 hown hK hP hD hS 0 rfl rfl 1 (by decide) (hts _ wm_t53) (fun _ h9 => h9) rfl hin rfl (by decide +kernel) rfl rfl (Nat.le_of_ble_eq_true rfl) dX8_init_11 (fun H locs hP hD hS => ?_)
  have hP : va_P D vwCl [(h0, .inr (8, [.int 24, .int 6, .int 0, .null, .null, .null, .null, .int 0]))] H := hP
  have hD : va_D A [(h0, .inr (8, [.int 24, .int 6, .int 0, .null, .null, .null, .null, .int 0]))] := hD
  refine lv_aload_n hx hb dX8_init_14 rfl (lv_at hl 0 rfl) ?_
  refine lv_iload_n hx hb dX8_init_15 rfl (lv_at hl 3 rfl) ?_
  refine va_putF (D := D) (ci := 8) (v := .int 0) (ty := .boolean) (C := RX8) (T := TX8) (N := 8) hx hb hts iX8 tyX8 tyX8_ok nmX8 hown hK hP hD hS 0 rfl rfl 2 (by decide) (hts _ wm_t54) (fun _ h9 => h9) rfl hin rfl (by decide +kernel) rfl rfl (Nat.le_of_ble_eq_true rfl) dX8_init_16 (fun H locs hP hD hS => ?_)
  have hP : va_P D vwCl [(h0, .inr (8, [.int 24, .int 6, .int 0, .null, .null, .null, .null, .int 0]))] H := hP
  have hD : va_D A [(h0, .inr (8, [.int 24, .int 6, .int 0, .null, .null, .null, .null, .int 0]))] := hD
  refine lv_iconst (v := 0) hx hb dX8_init_19 (by decide) ?_
  refine lv_iload_n hx hb dX8_init_20 rfl (lv_at hl 1 rfl) ?_
  refine lv_iload_n hx hb dX8_init_21 rfl (lv_at hl 2 rfl) ?_
  refine lv_imul hx hb dX8_init_22 ?_
  refine va_mmax hx hb (hml.trans hl.1.symm) hown (hts _ wm_t49) (hts _ wm_t50) (hts _ wm_t4) (hts _ wm_t51) (by decide) (Nat.le_of_ble_eq_true rfl) (by decide) (by decide) dX8_init_23 ?_
  refine W.eq (g2 := F0 m 26 ls [.int 144]) (by rfl) ?_
  refine lv_istore (lv' := [(4, .int 144), (0, .ref h0), (1, .int 24), (2, .int 6), (3, .int 0)]) hx hb dX8_init_26 hl (by decide) rfl (fun ls hl => ?_)
  refine lv_aload_n hx hb dX8_init_28 rfl (lv_at hl 1 rfl) ?_
  refine lv_iload hx hb dX8_init_29 (lv_at hl 0 rfl) ?_
  refine k_newI (N := 144) C wm_t42 hP hD hS hA (by decide) (by decide) (by decide) (by decide) (by decide) dX8_init_31 (fun q1 H hP hD hS => ?_)
  have hP : va_P D vwCl [(h0, .inr (8, [.int 24, .int 6, .int 0, .null, .null, .null, .null, .int 0])), (q1, .inl (cI, (144, .inl (fun _ => 0))))] H := hP
  have hD : va_D A [(h0, .inr (8, [.int 24, .int 6, .int 0, .null, .null, .null, .null, .int 0])), (q1, .inl (cI, (144, .inl (fun _ => 0))))] := hD
  refine W.widen (k := 1) (n := 144) (by omega) (by omega) ?_
  refine va_putF (D := D) (ci := 8) (v := .ref q1) (ty := (.array .int)) (C := RX8) (T := TX8) (N := 8) hx hb hts iX8 tyX8 tyX8_ok nmX8 hown hK hP hD hS 0 rfl rfl 3 (by decide) (hts _ wm_t55) (fun _ h9 => h9) rfl hin rfl (by decide +kernel) rfl rfl (Nat.le_of_ble_eq_true rfl) dX8_init_33 (fun H locs hP hD hS => ?_)
  have hP : va_P D vwCl [(h0, .inr (8, [.int 24, .int 6, .int 0, .ref q1, .null, .null, .null, .int 0])), (q1, .inl (cI, (144, .inl (fun _ => 0))))] H := hP
  have hD : va_D A [(h0, .inr (8, [.int 24, .int 6, .int 0, .ref q1, .null, .null, .null, .int 0])), (q1, .inl (cI, (144, .inl (fun _ => 0))))] := hD
  refine lv_aload_n hx hb dX8_init_36 rfl (lv_at hl 1 rfl) ?_
  refine lv_iload hx hb dX8_init_37 (lv_at hl 0 rfl) ?_
  refine k_newI (N := 144) C wm_t42 hP hD hS hA (by decide) (by decide) (by decide) (by decide) (by decide) dX8_init_39 (fun q2 H hP hD hS => ?_)
  have hP : va_P D vwCl [(h0, .inr (8, [.int 24, .int 6, .int 0, .ref q1, .null, .null, .null, .int 0])), (q1, .inl (cI, (144, .inl (fun _ => 0)))), (q2, .inl (cI, (144, .inl (fun _ => 0))))] H := hP
  have hD : va_D A [(h0, .inr (8, [.int 24, .int 6, .int 0, .ref q1, .null, .null, .null, .int 0])), (q1, .inl (cI, (144, .inl (fun _ => 0)))), (q2, .inl (cI, (144, .inl (fun _ => 0))))] := hD
  refine W.widen (k := 2) (n := 288) (by omega) (by omega) ?_
  refine va_putF (D := D) (ci := 8) (v := .ref q2) (ty := (.array .int)) (C := RX8) (T := TX8) (N := 8) hx hb hts iX8 tyX8 tyX8_ok nmX8 hown hK hP hD hS 0 rfl rfl 4 (by decide) (hts _ wm_t60) (fun _ h9 => h9) rfl hin rfl (by decide +kernel) rfl rfl (Nat.le_of_ble_eq_true rfl) dX8_init_41 (fun H locs hP hD hS => ?_)
  have hP : va_P D vwCl [(h0, .inr (8, [.int 24, .int 6, .int 0, .ref q1, .ref q2, .null, .null, .int 0])), (q1, .inl (cI, (144, .inl (fun _ => 0)))), (q2, .inl (cI, (144, .inl (fun _ => 0))))] H := hP
  have hD : va_D A [(h0, .inr (8, [.int 24, .int 6, .int 0, .ref q1, .ref q2, .null, .null, .int 0])), (q1, .inl (cI, (144, .inl (fun _ => 0)))), (q2, .inl (cI, (144, .inl (fun _ => 0))))] := hD
  refine lv_aload_n hx hb dX8_init_44 rfl (lv_at hl 1 rfl) ?_
  refine lv_iload hx hb dX8_init_45 (lv_at hl 0 rfl) ?_
  refine k_newI (N := 144) C wm_t42 hP hD hS hA (by decide) (by decide) (by decide) (by decide) (by decide) dX8_init_47 (fun q3 H hP hD hS => ?_)
  have hP : va_P D vwCl [(h0, .inr (8, [.int 24, .int 6, .int 0, .ref q1, .ref q2, .null, .null, .int 0])), (q1, .inl (cI, (144, .inl (fun _ => 0)))), (q2, .inl (cI, (144, .inl (fun _ => 0)))), (q3, .inl (cI, (144, .inl (fun _ => 0))))] H := hP
  have hD : va_D A [(h0, .inr (8, [.int 24, .int 6, .int 0, .ref q1, .ref q2, .null, .null, .int 0])), (q1, .inl (cI, (144, .inl (fun _ => 0)))), (q2, .inl (cI, (144, .inl (fun _ => 0)))), (q3, .inl (cI, (144, .inl (fun _ => 0))))] := hD
  refine W.widen (k := 3) (n := 432) (by omega) (by omega) ?_
  refine va_putF (D := D) (ci := 8) (v := .ref q3) (ty := (.array .int)) (C := RX8) (T := TX8) (N := 8) hx hb hts iX8 tyX8 tyX8_ok nmX8 hown hK hP hD hS 0 rfl rfl 5 (by decide) (hts _ wm_t63) (fun _ h9 => h9) rfl hin rfl (by decide +kernel) rfl rfl (Nat.le_of_ble_eq_true rfl) dX8_init_49 (fun H locs hP hD hS => ?_)
  have hP : va_P D vwCl [(h0, .inr (8, [.int 24, .int 6, .int 0, .ref q1, .ref q2, .ref q3, .null, .int 0])), (q1, .inl (cI, (144, .inl (fun _ => 0)))), (q2, .inl (cI, (144, .inl (fun _ => 0)))), (q3, .inl (cI, (144, .inl (fun _ => 0))))] H := hP
  have hD : va_D A [(h0, .inr (8, [.int 24, .int 6, .int 0, .ref q1, .ref q2, .ref q3, .null, .int 0])), (q1, .inl (cI, (144, .inl (fun _ => 0)))), (q2, .inl (cI, (144, .inl (fun _ => 0)))), (q3, .inl (cI, (144, .inl (fun _ => 0))))] := hD
  refine lv_aload_n hx hb dX8_init_52 rfl (lv_at hl 1 rfl) ?_
  refine lv_iload hx hb dX8_init_53 (lv_at hl 0 rfl) ?_
  refine k_newI (N := 144) C wm_t42 hP hD hS hA (by decide) (by decide) (by decide) (by decide) (by decide) dX8_init_55 (fun q4 H hP hD hS => ?_)
  have hP : va_P D vwCl [(h0, .inr (8, [.int 24, .int 6, .int 0, .ref q1, .ref q2, .ref q3, .null, .int 0])), (q1, .inl (cI, (144, .inl (fun _ => 0)))), (q2, .inl (cI, (144, .inl (fun _ => 0)))), (q3, .inl (cI, (144, .inl (fun _ => 0)))), (q4, .inl (cI, (144, .inl (fun _ => 0))))] H := hP
  have hD : va_D A [(h0, .inr (8, [.int 24, .int 6, .int 0, .ref q1, .ref q2, .ref q3, .null, .int 0])), (q1, .inl (cI, (144, .inl (fun _ => 0)))), (q2, .inl (cI, (144, .inl (fun _ => 0)))), (q3, .inl (cI, (144, .inl (fun _ => 0)))), (q4, .inl (cI, (144, .inl (fun _ => 0))))] := hD
  refine W.widen (k := 4) (n := 576) (by omega) (by omega) ?_
  refine va_putF (D := D) (ci := 8) (v := .ref q4) (ty := (.array .int)) (C := RX8) (T := TX8) (N := 8) hx hb hts iX8 tyX8 tyX8_ok nmX8 hown hK hP hD hS 0 rfl rfl 6 (by decide) (hts _ wm_t65) (fun _ h9 => h9) rfl hin rfl (by decide +kernel) rfl rfl (Nat.le_of_ble_eq_true rfl) dX8_init_57 (fun H locs hP hD hS => ?_)
  have hP : va_P D vwCl [(h0, .inr (8, [.int 24, .int 6, .int 0, .ref q1, .ref q2, .ref q3, .ref q4, .int 0])), (q1, .inl (cI, (144, .inl (fun _ => 0)))), (q2, .inl (cI, (144, .inl (fun _ => 0)))), (q3, .inl (cI, (144, .inl (fun _ => 0)))), (q4, .inl (cI, (144, .inl (fun _ => 0))))] H := hP
  have hD : va_D A [(h0, .inr (8, [.int 24, .int 6, .int 0, .ref q1, .ref q2, .ref q3, .ref q4, .int 0])), (q1, .inl (cI, (144, .inl (fun _ => 0)))), (q2, .inl (cI, (144, .inl (fun _ => 0)))), (q3, .inl (cI, (144, .inl (fun _ => 0)))), (q4, .inl (cI, (144, .inl (fun _ => 0))))] := hD
  refine W.widen (k := 4) (n := 576) (by omega) (by omega) ?_
  exact W.vret hx hb hr (fun t ht hW => ⟨⟨(uof [h0, q1, q2, q3, q4]), rfl, rfl, by show va_P _ _ _ t.heap; rw [ht]; exact hP, hD⟩, hS.F ht⟩) hS.2.2 dX8_init_60 hlocks

def wl_X9_init (cI cZ : ClassId) (u : Nat → Nat) : va_W := [((u 0), .inr (9, [.int 0, .int 0, .ref (u 1), .ref (u 2), .ref (u 3), .ref (u 4), .ref (u 5), .ref (u 6)])), ((u 1), .inl (cI, (600, .inl (fun _ => 0)))), ((u 2), .inl (cI, (16, .inl (fun _ => 0)))), ((u 3), .inl (cI, (16, .inl (fun _ => 0)))), ((u 4), .inl (cI, (16, .inl (fun _ => 0)))), ((u 5), .inl (cI, (16, .inl (fun _ => 0)))), ((u 6), .inl (cI, (32, .inl (fun _ => 0))))]
set_option maxHeartbeats 8000000 in
set_option maxRecDepth 20000 in
theorem k_X9_init {l : Launch} {D : va_G} {cI cZ : ClassId} (h0 sz : Nat) : Met l yX9_init (Cond.code yX9_init cX9_init 1 none :: gT) { frames := 1, cells := 6, slots := 696, locals := 60 } (va_Pc [.ref h0] (preK D cI cZ [(h0, .inr (9, [.int 0, .int 0, .null, .null, .null, .null, .null, .null]))] sz)) (va_Qv (fun u : Nat → Nat => u 0 = h0) (postK D (wl_X9_init cI cZ) (va_A [(h0, .inr (9, [.int 0, .int 0, .null, .null, .null, .null, .null, .null]))] sz)) (va_A [(h0, .inr (9, [.int 0, .int 0, .null, .null, .null, .null, .null, .null]))] sz)) 6 696 (va_A [(h0, .inr (9, [.int 0, .int 0, .null, .null, .null, .null, .null, .null]))] sz) := by
  refine k_entry (y := yX9_init) (cc := cX9_init) (nL := 1) (fun sz => va_Qv (fun u : Nat → Nat => u 0 = h0) (postK D (wl_X9_init cI cZ) (va_A [(h0, .inr (9, [.int 0, .int 0, .null, .null, .null, .null, .null, .null]))] sz)) (va_A [(h0, .inr (9, [.int 0, .int 0, .null, .null, .null, .null, .null, .null]))] sz)) [(h0, .inr (9, [.int 0, .int 0, .null, .null, .null, .null, .null, .null]))] (by decide) rfl [.ref h0] (Nat.le_of_ble_eq_true rfl) (fun p e s m args below meth c ls C hP hD hl => ?_)
  have hl : lv_has ls 1 [(0, .ref h0)] := hl
  obtain ⟨hx, hb, hr, hml, hown, hts, hlocks, hK, hN, hin⟩ := id C
  show W p l e _ s m args below meth c s.heap [] 0 0 (MQ below (va_Qv (fun u : Nat → Nat => u 0 = h0) (postK D (wl_X9_init cI cZ) (va_A [(h0, .inr (9, [.int 0, .int 0, .null, .null, .null, .null, .null, .null]))] s.heap.size)) (va_A [(h0, .inr (9, [.int 0, .int 0, .null, .null, .null, .null, .null, .null]))] s.heap.size)) args s 6 696 (va_A [(h0, .inr (9, [.int 0, .int 0, .null, .null, .null, .null, .null, .null]))] s.heap.size)) _
  generalize hAe : va_A [(h0, .inr (9, [.int 0, .int 0, .null, .null, .null, .null, .null, .null]))] s.heap.size = A at hD ⊢
  have hA : ∀ q : Nat, s.heap.size ≤ q → A q := fun q h => by rw [← hAe]; exact Or.inr h
  have hS : va_S A s.heap s.heap [] := va_S.rf
  refine lv_aload_n hx hb dX9_init_0 rfl (lv_at hl 0 rfl) ?_
  refine W.objInit hx hb hown (hts _ wm_t132) (hts _ wm_t27) (hts _ wm_t28) rfl (by rw [hml]; exact hl.1) rfl dX9_init_1 (Nat.le_of_ble_eq_true rfl) (Nat.le_of_ble_eq_true rfl) ?_
  refine W.eq (g2 := F0 m 4 ls []) rfl ?_
  refine lv_aload_n hx hb dX9_init_4 rfl (lv_at hl 0 rfl) ?_
  refine lv_sipush (v := 600) hx hb dX9_init_5 (by decide) ?_
  refine k_newI (N := 600) C wm_t42 hP hD hS hA (by decide) (by decide) (by decide) (by decide) (by decide) dX9_init_8 (fun q1 H hP hD hS => ?_)
  have hP : va_P D vwCl [(h0, .inr (9, [.int 0, .int 0, .null, .null, .null, .null, .null, .null])), (q1, .inl (cI, (600, .inl (fun _ => 0))))] H := hP
  have hD : va_D A [(h0, .inr (9, [.int 0, .int 0, .null, .null, .null, .null, .null, .null])), (q1, .inl (cI, (600, .inl (fun _ => 0))))] := hD
  refine W.widen (k := 1) (n := 600) (by omega) (by omega) ?_
  refine va_putF (D := D) (ci := 9) (v := .ref q1) (ty := (.array .int)) (C := RX9) (T := TX9) (N := 8) hx hb hts iX9 tyX9 tyX9_ok nmX9 hown hK hP hD hS 0 rfl rfl 2 (by decide) (hts _ wm_t139) (fun _ h9 => h9) rfl hin rfl (by decide +kernel) rfl rfl (Nat.le_of_ble_eq_true rfl) dX9_init_10 (fun H locs hP hD hS => ?_)
  have hP : va_P D vwCl [(h0, .inr (9, [.int 0, .int 0, .ref q1, .null, .null, .null, .null, .null])), (q1, .inl (cI, (600, .inl (fun _ => 0))))] H := hP
  have hD : va_D A [(h0, .inr (9, [.int 0, .int 0, .ref q1, .null, .null, .null, .null, .null])), (q1, .inl (cI, (600, .inl (fun _ => 0))))] := hD
  refine lv_aload_n hx hb dX9_init_13 rfl (lv_at hl 0 rfl) ?_
  refine lv_bipush (v := 16) hx hb dX9_init_14 (by decide) ?_
  refine k_newI (N := 16) C wm_t42 hP hD hS hA (by decide) (by decide) (by decide) (by decide) (by decide) dX9_init_16 (fun q2 H hP hD hS => ?_)
  have hP : va_P D vwCl [(h0, .inr (9, [.int 0, .int 0, .ref q1, .null, .null, .null, .null, .null])), (q1, .inl (cI, (600, .inl (fun _ => 0)))), (q2, .inl (cI, (16, .inl (fun _ => 0))))] H := hP
  have hD : va_D A [(h0, .inr (9, [.int 0, .int 0, .ref q1, .null, .null, .null, .null, .null])), (q1, .inl (cI, (600, .inl (fun _ => 0)))), (q2, .inl (cI, (16, .inl (fun _ => 0))))] := hD
  refine W.widen (k := 2) (n := 616) (by omega) (by omega) ?_
  refine va_putF (D := D) (ci := 9) (v := .ref q2) (ty := (.array .int)) (C := RX9) (T := TX9) (N := 8) hx hb hts iX9 tyX9 tyX9_ok nmX9 hown hK hP hD hS 0 rfl rfl 3 (by decide) (hts _ wm_t140) (fun _ h9 => h9) rfl hin rfl (by decide +kernel) rfl rfl (Nat.le_of_ble_eq_true rfl) dX9_init_18 (fun H locs hP hD hS => ?_)
  have hP : va_P D vwCl [(h0, .inr (9, [.int 0, .int 0, .ref q1, .ref q2, .null, .null, .null, .null])), (q1, .inl (cI, (600, .inl (fun _ => 0)))), (q2, .inl (cI, (16, .inl (fun _ => 0))))] H := hP
  have hD : va_D A [(h0, .inr (9, [.int 0, .int 0, .ref q1, .ref q2, .null, .null, .null, .null])), (q1, .inl (cI, (600, .inl (fun _ => 0)))), (q2, .inl (cI, (16, .inl (fun _ => 0))))] := hD
  refine lv_aload_n hx hb dX9_init_21 rfl (lv_at hl 0 rfl) ?_
  refine lv_bipush (v := 16) hx hb dX9_init_22 (by decide) ?_
  refine k_newI (N := 16) C wm_t42 hP hD hS hA (by decide) (by decide) (by decide) (by decide) (by decide) dX9_init_24 (fun q3 H hP hD hS => ?_)
  have hP : va_P D vwCl [(h0, .inr (9, [.int 0, .int 0, .ref q1, .ref q2, .null, .null, .null, .null])), (q1, .inl (cI, (600, .inl (fun _ => 0)))), (q2, .inl (cI, (16, .inl (fun _ => 0)))), (q3, .inl (cI, (16, .inl (fun _ => 0))))] H := hP
  have hD : va_D A [(h0, .inr (9, [.int 0, .int 0, .ref q1, .ref q2, .null, .null, .null, .null])), (q1, .inl (cI, (600, .inl (fun _ => 0)))), (q2, .inl (cI, (16, .inl (fun _ => 0)))), (q3, .inl (cI, (16, .inl (fun _ => 0))))] := hD
  refine W.widen (k := 3) (n := 632) (by omega) (by omega) ?_
  refine va_putF (D := D) (ci := 9) (v := .ref q3) (ty := (.array .int)) (C := RX9) (T := TX9) (N := 8) hx hb hts iX9 tyX9 tyX9_ok nmX9 hown hK hP hD hS 0 rfl rfl 4 (by decide) (hts _ wm_t141) (fun _ h9 => h9) rfl hin rfl (by decide +kernel) rfl rfl (Nat.le_of_ble_eq_true rfl) dX9_init_26 (fun H locs hP hD hS => ?_)
  have hP : va_P D vwCl [(h0, .inr (9, [.int 0, .int 0, .ref q1, .ref q2, .ref q3, .null, .null, .null])), (q1, .inl (cI, (600, .inl (fun _ => 0)))), (q2, .inl (cI, (16, .inl (fun _ => 0)))), (q3, .inl (cI, (16, .inl (fun _ => 0))))] H := hP
  have hD : va_D A [(h0, .inr (9, [.int 0, .int 0, .ref q1, .ref q2, .ref q3, .null, .null, .null])), (q1, .inl (cI, (600, .inl (fun _ => 0)))), (q2, .inl (cI, (16, .inl (fun _ => 0)))), (q3, .inl (cI, (16, .inl (fun _ => 0))))] := hD
  refine lv_aload_n hx hb dX9_init_29 rfl (lv_at hl 0 rfl) ?_
  refine lv_bipush (v := 16) hx hb dX9_init_30 (by decide) ?_
  refine k_newI (N := 16) C wm_t42 hP hD hS hA (by decide) (by decide) (by decide) (by decide) (by decide) dX9_init_32 (fun q4 H hP hD hS => ?_)
  have hP : va_P D vwCl [(h0, .inr (9, [.int 0, .int 0, .ref q1, .ref q2, .ref q3, .null, .null, .null])), (q1, .inl (cI, (600, .inl (fun _ => 0)))), (q2, .inl (cI, (16, .inl (fun _ => 0)))), (q3, .inl (cI, (16, .inl (fun _ => 0)))), (q4, .inl (cI, (16, .inl (fun _ => 0))))] H := hP
  have hD : va_D A [(h0, .inr (9, [.int 0, .int 0, .ref q1, .ref q2, .ref q3, .null, .null, .null])), (q1, .inl (cI, (600, .inl (fun _ => 0)))), (q2, .inl (cI, (16, .inl (fun _ => 0)))), (q3, .inl (cI, (16, .inl (fun _ => 0)))), (q4, .inl (cI, (16, .inl (fun _ => 0))))] := hD
  refine W.widen (k := 4) (n := 648) (by omega) (by omega) ?_
  refine va_putF (D := D) (ci := 9) (v := .ref q4) (ty := (.array .int)) (C := RX9) (T := TX9) (N := 8) hx hb hts iX9 tyX9 tyX9_ok nmX9 hown hK hP hD hS 0 rfl rfl 5 (by decide) (hts _ wm_t142) (fun _ h9 => h9) rfl hin rfl (by decide +kernel) rfl rfl (Nat.le_of_ble_eq_true rfl) dX9_init_34 (fun H locs hP hD hS => ?_)
  have hP : va_P D vwCl [(h0, .inr (9, [.int 0, .int 0, .ref q1, .ref q2, .ref q3, .ref q4, .null, .null])), (q1, .inl (cI, (600, .inl (fun _ => 0)))), (q2, .inl (cI, (16, .inl (fun _ => 0)))), (q3, .inl (cI, (16, .inl (fun _ => 0)))), (q4, .inl (cI, (16, .inl (fun _ => 0))))] H := hP
  have hD : va_D A [(h0, .inr (9, [.int 0, .int 0, .ref q1, .ref q2, .ref q3, .ref q4, .null, .null])), (q1, .inl (cI, (600, .inl (fun _ => 0)))), (q2, .inl (cI, (16, .inl (fun _ => 0)))), (q3, .inl (cI, (16, .inl (fun _ => 0)))), (q4, .inl (cI, (16, .inl (fun _ => 0))))] := hD
  refine lv_aload_n hx hb dX9_init_37 rfl (lv_at hl 0 rfl) ?_
  refine lv_bipush (v := 16) hx hb dX9_init_38 (by decide) ?_
  refine k_newI (N := 16) C wm_t42 hP hD hS hA (by decide) (by decide) (by decide) (by decide) (by decide) dX9_init_40 (fun q5 H hP hD hS => ?_)
  have hP : va_P D vwCl [(h0, .inr (9, [.int 0, .int 0, .ref q1, .ref q2, .ref q3, .ref q4, .null, .null])), (q1, .inl (cI, (600, .inl (fun _ => 0)))), (q2, .inl (cI, (16, .inl (fun _ => 0)))), (q3, .inl (cI, (16, .inl (fun _ => 0)))), (q4, .inl (cI, (16, .inl (fun _ => 0)))), (q5, .inl (cI, (16, .inl (fun _ => 0))))] H := hP
  have hD : va_D A [(h0, .inr (9, [.int 0, .int 0, .ref q1, .ref q2, .ref q3, .ref q4, .null, .null])), (q1, .inl (cI, (600, .inl (fun _ => 0)))), (q2, .inl (cI, (16, .inl (fun _ => 0)))), (q3, .inl (cI, (16, .inl (fun _ => 0)))), (q4, .inl (cI, (16, .inl (fun _ => 0)))), (q5, .inl (cI, (16, .inl (fun _ => 0))))] := hD
  refine W.widen (k := 5) (n := 664) (by omega) (by omega) ?_
  refine va_putF (D := D) (ci := 9) (v := .ref q5) (ty := (.array .int)) (C := RX9) (T := TX9) (N := 8) hx hb hts iX9 tyX9 tyX9_ok nmX9 hown hK hP hD hS 0 rfl rfl 6 (by decide) (hts _ wm_t143) (fun _ h9 => h9) rfl hin rfl (by decide +kernel) rfl rfl (Nat.le_of_ble_eq_true rfl) dX9_init_42 (fun H locs hP hD hS => ?_)
  have hP : va_P D vwCl [(h0, .inr (9, [.int 0, .int 0, .ref q1, .ref q2, .ref q3, .ref q4, .ref q5, .null])), (q1, .inl (cI, (600, .inl (fun _ => 0)))), (q2, .inl (cI, (16, .inl (fun _ => 0)))), (q3, .inl (cI, (16, .inl (fun _ => 0)))), (q4, .inl (cI, (16, .inl (fun _ => 0)))), (q5, .inl (cI, (16, .inl (fun _ => 0))))] H := hP
  have hD : va_D A [(h0, .inr (9, [.int 0, .int 0, .ref q1, .ref q2, .ref q3, .ref q4, .ref q5, .null])), (q1, .inl (cI, (600, .inl (fun _ => 0)))), (q2, .inl (cI, (16, .inl (fun _ => 0)))), (q3, .inl (cI, (16, .inl (fun _ => 0)))), (q4, .inl (cI, (16, .inl (fun _ => 0)))), (q5, .inl (cI, (16, .inl (fun _ => 0))))] := hD
  refine lv_aload_n hx hb dX9_init_45 rfl (lv_at hl 0 rfl) ?_
  refine lv_bipush (v := 32) hx hb dX9_init_46 (by decide) ?_
  refine k_newI (N := 32) C wm_t42 hP hD hS hA (by decide) (by decide) (by decide) (by decide) (by decide) dX9_init_48 (fun q6 H hP hD hS => ?_)
  have hP : va_P D vwCl [(h0, .inr (9, [.int 0, .int 0, .ref q1, .ref q2, .ref q3, .ref q4, .ref q5, .null])), (q1, .inl (cI, (600, .inl (fun _ => 0)))), (q2, .inl (cI, (16, .inl (fun _ => 0)))), (q3, .inl (cI, (16, .inl (fun _ => 0)))), (q4, .inl (cI, (16, .inl (fun _ => 0)))), (q5, .inl (cI, (16, .inl (fun _ => 0)))), (q6, .inl (cI, (32, .inl (fun _ => 0))))] H := hP
  have hD : va_D A [(h0, .inr (9, [.int 0, .int 0, .ref q1, .ref q2, .ref q3, .ref q4, .ref q5, .null])), (q1, .inl (cI, (600, .inl (fun _ => 0)))), (q2, .inl (cI, (16, .inl (fun _ => 0)))), (q3, .inl (cI, (16, .inl (fun _ => 0)))), (q4, .inl (cI, (16, .inl (fun _ => 0)))), (q5, .inl (cI, (16, .inl (fun _ => 0)))), (q6, .inl (cI, (32, .inl (fun _ => 0))))] := hD
  refine W.widen (k := 6) (n := 696) (by omega) (by omega) ?_
  refine va_putF (D := D) (ci := 9) (v := .ref q6) (ty := (.array .int)) (C := RX9) (T := TX9) (N := 8) hx hb hts iX9 tyX9 tyX9_ok nmX9 hown hK hP hD hS 0 rfl rfl 7 (by decide) (hts _ wm_t144) (fun _ h9 => h9) rfl hin rfl (by decide +kernel) rfl rfl (Nat.le_of_ble_eq_true rfl) dX9_init_50 (fun H locs hP hD hS => ?_)
  have hP : va_P D vwCl [(h0, .inr (9, [.int 0, .int 0, .ref q1, .ref q2, .ref q3, .ref q4, .ref q5, .ref q6])), (q1, .inl (cI, (600, .inl (fun _ => 0)))), (q2, .inl (cI, (16, .inl (fun _ => 0)))), (q3, .inl (cI, (16, .inl (fun _ => 0)))), (q4, .inl (cI, (16, .inl (fun _ => 0)))), (q5, .inl (cI, (16, .inl (fun _ => 0)))), (q6, .inl (cI, (32, .inl (fun _ => 0))))] H := hP
  have hD : va_D A [(h0, .inr (9, [.int 0, .int 0, .ref q1, .ref q2, .ref q3, .ref q4, .ref q5, .ref q6])), (q1, .inl (cI, (600, .inl (fun _ => 0)))), (q2, .inl (cI, (16, .inl (fun _ => 0)))), (q3, .inl (cI, (16, .inl (fun _ => 0)))), (q4, .inl (cI, (16, .inl (fun _ => 0)))), (q5, .inl (cI, (16, .inl (fun _ => 0)))), (q6, .inl (cI, (32, .inl (fun _ => 0))))] := hD
  refine W.widen (k := 6) (n := 696) (by omega) (by omega) ?_
  exact W.vret hx hb hr (fun t ht hW => ⟨⟨(uof [h0, q1, q2, q3, q4, q5, q6]), rfl, rfl, by show va_P _ _ _ t.heap; rw [ht]; exact hP, hD⟩, hS.F ht⟩) hS.2.2 dX9_init_53 hlocks

def ar_X5_init_0 : Nat → Int32 := (upd (upd (upd (upd (upd (upd (upd (fun _ => 0) 0 0) 1 20) 2 40) 3 50) 4 40) 5 20) 6 0)
def wl_X5_init (cI cZ : ClassId) (u : Nat → Nat) : va_W := [((u 0), .inr (5, [.ref (u 1), .ref (u 6), .int 60, .int 0, .int 0, .int 0, .int (-1)])), ((u 1), .inr (8, [.int 24, .int 6, .int 0, .ref (u 2), .ref (u 3), .ref (u 4), .ref (u 5), .int 0])), ((u 2), .inl (cI, (144, .inl (fun _ => 0)))), ((u 3), .inl (cI, (144, .inl (fun _ => 0)))), ((u 4), .inl (cI, (144, .inl (fun _ => 0)))), ((u 5), .inl (cI, (144, .inl (fun _ => 0)))), ((u 6), .inl (cI, (7, .inl ar_X5_init_0)))]
set_option maxHeartbeats 8000000 in
set_option maxRecDepth 20000 in
theorem k_X5_init {l : Launch} {D : va_G} {cI cZ : ClassId} (h0 sz : Nat) : Met l yX5_init (Cond.code yX5_init cX5_init 1 none :: gT) { frames := 2, cells := 6, slots := 591, locals := 120 } (va_Pc [.ref h0] (preK D cI cZ [(h0, .inr (5, [.null, .null, .int 0, .int 0, .int 0, .int 0, .int 0]))] sz)) (va_Qv (fun u : Nat → Nat => u 0 = h0) (postK D (wl_X5_init cI cZ) (va_A [(h0, .inr (5, [.null, .null, .int 0, .int 0, .int 0, .int 0, .int 0]))] sz)) (va_A [(h0, .inr (5, [.null, .null, .int 0, .int 0, .int 0, .int 0, .int 0]))] sz)) 6 591 (va_A [(h0, .inr (5, [.null, .null, .int 0, .int 0, .int 0, .int 0, .int 0]))] sz) := by
  refine k_entry (y := yX5_init) (cc := cX5_init) (nL := 1) (fun sz => va_Qv (fun u : Nat → Nat => u 0 = h0) (postK D (wl_X5_init cI cZ) (va_A [(h0, .inr (5, [.null, .null, .int 0, .int 0, .int 0, .int 0, .int 0]))] sz)) (va_A [(h0, .inr (5, [.null, .null, .int 0, .int 0, .int 0, .int 0, .int 0]))] sz)) [(h0, .inr (5, [.null, .null, .int 0, .int 0, .int 0, .int 0, .int 0]))] (by decide) rfl [.ref h0] (Nat.le_of_ble_eq_true rfl) (fun p e s m args below meth c ls C hP hD hl => ?_)
  have hl : lv_has ls 1 [(0, .ref h0)] := hl
  obtain ⟨hx, hb, hr, hml, hown, hts, hlocks, hK, hN, hin⟩ := id C
  show W p l e _ s m args below meth c s.heap [] 0 0 (MQ below (va_Qv (fun u : Nat → Nat => u 0 = h0) (postK D (wl_X5_init cI cZ) (va_A [(h0, .inr (5, [.null, .null, .int 0, .int 0, .int 0, .int 0, .int 0]))] s.heap.size)) (va_A [(h0, .inr (5, [.null, .null, .int 0, .int 0, .int 0, .int 0, .int 0]))] s.heap.size)) args s 6 591 (va_A [(h0, .inr (5, [.null, .null, .int 0, .int 0, .int 0, .int 0, .int 0]))] s.heap.size)) _
  generalize hAe : va_A [(h0, .inr (5, [.null, .null, .int 0, .int 0, .int 0, .int 0, .int 0]))] s.heap.size = A at hD ⊢
  have hA : ∀ q : Nat, s.heap.size ≤ q → A q := fun q h => by rw [← hAe]; exact Or.inr h
  have hS : va_S A s.heap s.heap [] := va_S.rf
  refine lv_aload_n hx hb dX5_init_0 rfl (lv_at hl 0 rfl) ?_
  refine W.objInit hx hb hown (hts _ wm_t91) (hts _ wm_t27) (hts _ wm_t28) rfl (by rw [hml]; exact hl.1) rfl dX5_init_1 (Nat.le_of_ble_eq_true rfl) (Nat.le_of_ble_eq_true rfl) ?_
  refine W.eq (g2 := F0 m 4 ls []) rfl ?_
  refine lv_aload_n hx hb dX5_init_4 rfl (lv_at hl 0 rfl) ?_
  refine va_new (ci := 8) (fs := [.int 0, .int 0, .int 0, .null, .null, .null, .null, .int 0]) (C := RX8) (T := TX8) (N := 8) hx hb hts iX8 tyX8 tyX8_ok hown (hts _ wm_t92) (hts _ wm_t44) (hts _ wm_t3) hK hP hD hS hA rfl (by decide) (by decide) (by decide) dX5_init_5 (fun q1 H hP hD hS => ?_)
  have hP : va_P D vwCl [(h0, .inr (5, [.null, .null, .int 0, .int 0, .int 0, .int 0, .int 0])), (q1, .inr (8, [.int 0, .int 0, .int 0, .null, .null, .null, .null, .int 0]))] H := hP
  have hD : va_D A [(h0, .inr (5, [.null, .null, .int 0, .int 0, .int 0, .int 0, .int 0])), (q1, .inr (8, [.int 0, .int 0, .int 0, .null, .null, .null, .null, .int 0]))] := hD
  refine W.widen (k := 1) (n := 8) (by omega) (by omega) ?_
  refine lv_dup hx hb dX5_init_8 rfl ?_
  refine lv_bipush (v := 24) hx hb dX5_init_9 (by decide) ?_
  refine lv_bipush (v := 6) hx hb dX5_init_11 (by decide) ?_
  refine lv_iconst (v := 0) hx hb dX5_init_13 (by decide) ?_
  refine k_call (n := 3) (As := [.int 24, .int 6, .int 0]) (rest := [.ref q1, .ref h0]) (host := "") (wr := [(h0, .inr (5, [.null, .null, .int 0, .int 0, .int 0, .int 0, .int 0]))]) (wl := wl_X8_initH cI cZ) ⟨hx, hb, hml, hown, hts⟩ hK hN (k_X8_initH q1 H.size) (Or.inl wm_t93) wm_t47 wm_t3 wm_t46 rfl (by decide +kernel) ⟨rfl, rfl, by decide, by decide⟩ rfl rfl (Nat.le_of_ble_eq_true rfl) dX5_init_14 (by decide) hl.1 hP hD hS hA [1] [0] rfl rfl (by decide) (by decide) (by decide) rfl (fun u2 H locs hu2 hP hD hS => ?_)
  rw [← hu2]
  have hP : va_P D vwCl [(h0, .inr (5, [.null, .null, .int 0, .int 0, .int 0, .int 0, .int 0])), ((u2 0), .inr (8, [.int 24, .int 6, .int 0, .ref (u2 1), .ref (u2 2), .ref (u2 3), .ref (u2 4), .int 0])), ((u2 1), .inl (cI, (144, .inl (fun _ => 0)))), ((u2 2), .inl (cI, (144, .inl (fun _ => 0)))), ((u2 3), .inl (cI, (144, .inl (fun _ => 0)))), ((u2 4), .inl (cI, (144, .inl (fun _ => 0))))] H := hP
  have hD : va_D A [(h0, .inr (5, [.null, .null, .int 0, .int 0, .int 0, .int 0, .int 0])), ((u2 0), .inr (8, [.int 24, .int 6, .int 0, .ref (u2 1), .ref (u2 2), .ref (u2 3), .ref (u2 4), .int 0])), ((u2 1), .inl (cI, (144, .inl (fun _ => 0)))), ((u2 2), .inl (cI, (144, .inl (fun _ => 0)))), ((u2 3), .inl (cI, (144, .inl (fun _ => 0)))), ((u2 4), .inl (cI, (144, .inl (fun _ => 0))))] := hD
  refine W.widen (k := 5) (n := 584) (by omega) (by omega) ?_
  refine va_putF (D := D) (ci := 5) (v := .ref (u2 0)) (ty := (.object "SoupCargo$Stacks")) (C := RX5) (T := TX5) (N := 7) hx hb hts iX5 tyX5 tyX5_ok nmX5 hown hK hP hD hS 0 rfl rfl 0 (by decide) (hts _ wm_t94) (fun _ h9 => h9) rfl hin rfl (by decide +kernel) rfl rfl (Nat.le_of_ble_eq_true rfl) dX5_init_17 (fun H locs hP hD hS => ?_)
  have hP : va_P D vwCl [(h0, .inr (5, [.ref (u2 0), .null, .int 0, .int 0, .int 0, .int 0, .int 0])), ((u2 0), .inr (8, [.int 24, .int 6, .int 0, .ref (u2 1), .ref (u2 2), .ref (u2 3), .ref (u2 4), .int 0])), ((u2 1), .inl (cI, (144, .inl (fun _ => 0)))), ((u2 2), .inl (cI, (144, .inl (fun _ => 0)))), ((u2 3), .inl (cI, (144, .inl (fun _ => 0)))), ((u2 4), .inl (cI, (144, .inl (fun _ => 0))))] H := hP
  have hD : va_D A [(h0, .inr (5, [.ref (u2 0), .null, .int 0, .int 0, .int 0, .int 0, .int 0])), ((u2 0), .inr (8, [.int 24, .int 6, .int 0, .ref (u2 1), .ref (u2 2), .ref (u2 3), .ref (u2 4), .int 0])), ((u2 1), .inl (cI, (144, .inl (fun _ => 0)))), ((u2 2), .inl (cI, (144, .inl (fun _ => 0)))), ((u2 3), .inl (cI, (144, .inl (fun _ => 0)))), ((u2 4), .inl (cI, (144, .inl (fun _ => 0))))] := hD
  refine lv_aload_n hx hb dX5_init_20 rfl (lv_at hl 0 rfl) ?_
  refine lv_bipush (v := 7) hx hb dX5_init_21 (by decide) ?_
  refine k_newI (N := 7) C wm_t42 hP hD hS hA (by decide) (by decide) (by decide) (by decide) (by decide) dX5_init_23 (fun q3 H hP hD hS => ?_)
  have hP : va_P D vwCl [(h0, .inr (5, [.ref (u2 0), .null, .int 0, .int 0, .int 0, .int 0, .int 0])), ((u2 0), .inr (8, [.int 24, .int 6, .int 0, .ref (u2 1), .ref (u2 2), .ref (u2 3), .ref (u2 4), .int 0])), ((u2 1), .inl (cI, (144, .inl (fun _ => 0)))), ((u2 2), .inl (cI, (144, .inl (fun _ => 0)))), ((u2 3), .inl (cI, (144, .inl (fun _ => 0)))), ((u2 4), .inl (cI, (144, .inl (fun _ => 0)))), (q3, .inl (cI, (7, .inl (fun _ => 0))))] H := hP
  have hD : va_D A [(h0, .inr (5, [.ref (u2 0), .null, .int 0, .int 0, .int 0, .int 0, .int 0])), ((u2 0), .inr (8, [.int 24, .int 6, .int 0, .ref (u2 1), .ref (u2 2), .ref (u2 3), .ref (u2 4), .int 0])), ((u2 1), .inl (cI, (144, .inl (fun _ => 0)))), ((u2 2), .inl (cI, (144, .inl (fun _ => 0)))), ((u2 3), .inl (cI, (144, .inl (fun _ => 0)))), ((u2 4), .inl (cI, (144, .inl (fun _ => 0)))), (q3, .inl (cI, (7, .inl (fun _ => 0))))] := hD
  refine W.widen (k := 6) (n := 591) (by omega) (by omega) ?_
  refine lv_dup hx hb dX5_init_25 rfl ?_
  refine lv_iconst (v := 0) hx hb dX5_init_26 (by decide) ?_
  refine lv_iconst (v := 0) hx hb dX5_init_27 (by decide) ?_
  have hP : va_P D vwCl ([(h0, .inr (5, [.ref (u2 0), .null, .int 0, .int 0, .int 0, .int 0, .int 0])), ((u2 0), .inr (8, [.int 24, .int 6, .int 0, .ref (u2 1), .ref (u2 2), .ref (u2 3), .ref (u2 4), .int 0])), ((u2 1), .inl (cI, (144, .inl (fun _ => 0)))), ((u2 2), .inl (cI, (144, .inl (fun _ => 0)))), ((u2 3), .inl (cI, (144, .inl (fun _ => 0)))), ((u2 4), .inl (cI, (144, .inl (fun _ => 0))))] ++ [(q3, .inl (cI, (7, .inl (fun _ => 0))))]) H := hP
  have hD : va_D A ([(h0, .inr (5, [.ref (u2 0), .null, .int 0, .int 0, .int 0, .int 0, .int 0])), ((u2 0), .inr (8, [.int 24, .int 6, .int 0, .ref (u2 1), .ref (u2 2), .ref (u2 3), .ref (u2 4), .int 0])), ((u2 1), .inl (cI, (144, .inl (fun _ => 0)))), ((u2 2), .inl (cI, (144, .inl (fun _ => 0)))), ((u2 3), .inl (cI, (144, .inl (fun _ => 0)))), ((u2 4), .inl (cI, (144, .inl (fun _ => 0))))] ++ [(q3, .inl (cI, (7, .inl (fun _ => 0))))]) := hD
  generalize hWR0 : ([(h0, .inr (5, [.ref (u2 0), .null, .int 0, .int 0, .int 0, .int 0, .int 0])), ((u2 0), .inr (8, [.int 24, .int 6, .int 0, .ref (u2 1), .ref (u2 2), .ref (u2 3), .ref (u2 4), .int 0])), ((u2 1), .inl (cI, (144, .inl (fun _ => 0)))), ((u2 2), .inl (cI, (144, .inl (fun _ => 0)))), ((u2 3), .inl (cI, (144, .inl (fun _ => 0)))), ((u2 4), .inl (cI, (144, .inl (fun _ => 0))))] : va_W) = wr at hP hD
  obtain ⟨g0_0, eg0_0⟩ : ∃ g : Nat → Int32, g = (fun _ => 0) := ⟨_, rfl⟩
  rw [← eg0_0] at hP hD
  refine k_ast (j := 0) C hP hD hS rfl (by decide) (by decide) dX5_init_28 (fun g0_1 H locs eg0_1 hP hD hS => ?_)
  refine lv_dup hx hb dX5_init_29 rfl ?_
  refine lv_iconst (v := 1) hx hb dX5_init_30 (by decide) ?_
  refine lv_bipush (v := 20) hx hb dX5_init_31 (by decide) ?_
  refine k_ast (j := 1) C hP hD hS rfl (by decide) (by decide) dX5_init_33 (fun g0_2 H locs eg0_2 hP hD hS => ?_)
  refine lv_dup hx hb dX5_init_34 rfl ?_
  refine lv_iconst (v := 2) hx hb dX5_init_35 (by decide) ?_
  refine lv_bipush (v := 40) hx hb dX5_init_36 (by decide) ?_
  refine k_ast (j := 2) C hP hD hS rfl (by decide) (by decide) dX5_init_38 (fun g0_3 H locs eg0_3 hP hD hS => ?_)
  refine lv_dup hx hb dX5_init_39 rfl ?_
  refine lv_iconst (v := 3) hx hb dX5_init_40 (by decide) ?_
  refine lv_bipush (v := 50) hx hb dX5_init_41 (by decide) ?_
  refine k_ast (j := 3) C hP hD hS rfl (by decide) (by decide) dX5_init_43 (fun g0_4 H locs eg0_4 hP hD hS => ?_)
  refine lv_dup hx hb dX5_init_44 rfl ?_
  refine lv_iconst (v := 4) hx hb dX5_init_45 (by decide) ?_
  refine lv_bipush (v := 40) hx hb dX5_init_46 (by decide) ?_
  refine k_ast (j := 4) C hP hD hS rfl (by decide) (by decide) dX5_init_48 (fun g0_5 H locs eg0_5 hP hD hS => ?_)
  refine lv_dup hx hb dX5_init_49 rfl ?_
  refine lv_iconst (v := 5) hx hb dX5_init_50 (by decide) ?_
  refine lv_bipush (v := 20) hx hb dX5_init_51 (by decide) ?_
  refine k_ast (j := 5) C hP hD hS rfl (by decide) (by decide) dX5_init_53 (fun g0_6 H locs eg0_6 hP hD hS => ?_)
  refine lv_dup hx hb dX5_init_54 rfl ?_
  refine lv_bipush (v := 6) hx hb dX5_init_55 (by decide) ?_
  refine lv_iconst (v := 0) hx hb dX5_init_57 (by decide) ?_
  refine k_ast (j := 6) C hP hD hS rfl (by decide) (by decide) dX5_init_58 (fun g0_7 H locs eg0_7 hP hD hS => ?_)
  have eF : g0_7 = ar_X5_init_0 := by rw [eg0_7, eg0_6, eg0_5, eg0_4, eg0_3, eg0_2, eg0_1, eg0_0]; rfl
  rw [eF, ← hWR0] at hP hD
  have hP : va_P D vwCl [(h0, .inr (5, [.ref (u2 0), .null, .int 0, .int 0, .int 0, .int 0, .int 0])), ((u2 0), .inr (8, [.int 24, .int 6, .int 0, .ref (u2 1), .ref (u2 2), .ref (u2 3), .ref (u2 4), .int 0])), ((u2 1), .inl (cI, (144, .inl (fun _ => 0)))), ((u2 2), .inl (cI, (144, .inl (fun _ => 0)))), ((u2 3), .inl (cI, (144, .inl (fun _ => 0)))), ((u2 4), .inl (cI, (144, .inl (fun _ => 0)))), (q3, .inl (cI, (7, .inl ar_X5_init_0)))] H := hP
  have hD : va_D A [(h0, .inr (5, [.ref (u2 0), .null, .int 0, .int 0, .int 0, .int 0, .int 0])), ((u2 0), .inr (8, [.int 24, .int 6, .int 0, .ref (u2 1), .ref (u2 2), .ref (u2 3), .ref (u2 4), .int 0])), ((u2 1), .inl (cI, (144, .inl (fun _ => 0)))), ((u2 2), .inl (cI, (144, .inl (fun _ => 0)))), ((u2 3), .inl (cI, (144, .inl (fun _ => 0)))), ((u2 4), .inl (cI, (144, .inl (fun _ => 0)))), (q3, .inl (cI, (7, .inl ar_X5_init_0)))] := hD
  refine va_putF (D := D) (ci := 5) (v := .ref q3) (ty := (.array .int)) (C := RX5) (T := TX5) (N := 7) hx hb hts iX5 tyX5 tyX5_ok nmX5 hown hK hP hD hS 0 rfl rfl 1 (by decide) (hts _ wm_t96) (fun _ h9 => h9) rfl hin rfl (by decide +kernel) rfl rfl (Nat.le_of_ble_eq_true rfl) dX5_init_59 (fun H locs hP hD hS => ?_)
  have hP : va_P D vwCl [(h0, .inr (5, [.ref (u2 0), .ref q3, .int 0, .int 0, .int 0, .int 0, .int 0])), ((u2 0), .inr (8, [.int 24, .int 6, .int 0, .ref (u2 1), .ref (u2 2), .ref (u2 3), .ref (u2 4), .int 0])), ((u2 1), .inl (cI, (144, .inl (fun _ => 0)))), ((u2 2), .inl (cI, (144, .inl (fun _ => 0)))), ((u2 3), .inl (cI, (144, .inl (fun _ => 0)))), ((u2 4), .inl (cI, (144, .inl (fun _ => 0)))), (q3, .inl (cI, (7, .inl ar_X5_init_0)))] H := hP
  have hD : va_D A [(h0, .inr (5, [.ref (u2 0), .ref q3, .int 0, .int 0, .int 0, .int 0, .int 0])), ((u2 0), .inr (8, [.int 24, .int 6, .int 0, .ref (u2 1), .ref (u2 2), .ref (u2 3), .ref (u2 4), .int 0])), ((u2 1), .inl (cI, (144, .inl (fun _ => 0)))), ((u2 2), .inl (cI, (144, .inl (fun _ => 0)))), ((u2 3), .inl (cI, (144, .inl (fun _ => 0)))), ((u2 4), .inl (cI, (144, .inl (fun _ => 0)))), (q3, .inl (cI, (7, .inl ar_X5_init_0)))] := hD
  refine lv_aload_n hx hb dX5_init_62 rfl (lv_at hl 0 rfl) ?_
  refine lv_bipush (v := 60) hx hb dX5_init_63 (by decide) ?_
  refine va_put (D := D) (ci := 5) (v := .int 60) (ty := .int) (C := RX5) (T := TX5) (N := 7) hx hb hts iX5 tyX5 tyX5_ok nmX5 hown hK hP hD hS 0 rfl rfl 2 (by decide) (hts _ wm_t97) (fun _ h9 => h9) rfl (by decide +kernel) rfl rfl (Nat.le_of_ble_eq_true rfl) dX5_init_65 (fun H locs hP hD hS => ?_)
  have hP : va_P D vwCl [(h0, .inr (5, [.ref (u2 0), .ref q3, .int 60, .int 0, .int 0, .int 0, .int 0])), ((u2 0), .inr (8, [.int 24, .int 6, .int 0, .ref (u2 1), .ref (u2 2), .ref (u2 3), .ref (u2 4), .int 0])), ((u2 1), .inl (cI, (144, .inl (fun _ => 0)))), ((u2 2), .inl (cI, (144, .inl (fun _ => 0)))), ((u2 3), .inl (cI, (144, .inl (fun _ => 0)))), ((u2 4), .inl (cI, (144, .inl (fun _ => 0)))), (q3, .inl (cI, (7, .inl ar_X5_init_0)))] H := hP
  have hD : va_D A [(h0, .inr (5, [.ref (u2 0), .ref q3, .int 60, .int 0, .int 0, .int 0, .int 0])), ((u2 0), .inr (8, [.int 24, .int 6, .int 0, .ref (u2 1), .ref (u2 2), .ref (u2 3), .ref (u2 4), .int 0])), ((u2 1), .inl (cI, (144, .inl (fun _ => 0)))), ((u2 2), .inl (cI, (144, .inl (fun _ => 0)))), ((u2 3), .inl (cI, (144, .inl (fun _ => 0)))), ((u2 4), .inl (cI, (144, .inl (fun _ => 0)))), (q3, .inl (cI, (7, .inl ar_X5_init_0)))] := hD
  refine lv_aload_n hx hb dX5_init_68 rfl (lv_at hl 0 rfl) ?_
  refine lv_iconst (v := (-1)) hx hb dX5_init_69 (by decide) ?_
  refine va_put (D := D) (ci := 5) (v := .int (-1)) (ty := .int) (C := RX5) (T := TX5) (N := 7) hx hb hts iX5 tyX5 tyX5_ok nmX5 hown hK hP hD hS 0 rfl rfl 6 (by decide) (hts _ wm_t104) (fun _ h9 => h9) rfl (by decide +kernel) rfl rfl (Nat.le_of_ble_eq_true rfl) dX5_init_70 (fun H locs hP hD hS => ?_)
  have hP : va_P D vwCl [(h0, .inr (5, [.ref (u2 0), .ref q3, .int 60, .int 0, .int 0, .int 0, .int (-1)])), ((u2 0), .inr (8, [.int 24, .int 6, .int 0, .ref (u2 1), .ref (u2 2), .ref (u2 3), .ref (u2 4), .int 0])), ((u2 1), .inl (cI, (144, .inl (fun _ => 0)))), ((u2 2), .inl (cI, (144, .inl (fun _ => 0)))), ((u2 3), .inl (cI, (144, .inl (fun _ => 0)))), ((u2 4), .inl (cI, (144, .inl (fun _ => 0)))), (q3, .inl (cI, (7, .inl ar_X5_init_0)))] H := hP
  have hD : va_D A [(h0, .inr (5, [.ref (u2 0), .ref q3, .int 60, .int 0, .int 0, .int 0, .int (-1)])), ((u2 0), .inr (8, [.int 24, .int 6, .int 0, .ref (u2 1), .ref (u2 2), .ref (u2 3), .ref (u2 4), .int 0])), ((u2 1), .inl (cI, (144, .inl (fun _ => 0)))), ((u2 2), .inl (cI, (144, .inl (fun _ => 0)))), ((u2 3), .inl (cI, (144, .inl (fun _ => 0)))), ((u2 4), .inl (cI, (144, .inl (fun _ => 0)))), (q3, .inl (cI, (7, .inl ar_X5_init_0)))] := hD
  refine W.widen (k := 6) (n := 591) (by omega) (by omega) ?_
  exact W.vret hx hb hr (fun t ht hW => ⟨⟨(uof [h0, (u2 0), (u2 1), (u2 2), (u2 3), (u2 4), q3]), rfl, rfl, by show va_P _ _ _ t.heap; rw [ht]; exact hP, hD⟩, hS.F ht⟩) hS.2.2 dX5_init_73 hlocks

def wl_X4_init (cI cZ : ClassId) (u : Nat → Nat) : va_W := [((u 0), .inr (4, [.ref (u 1), .int 0, .ref (u 2), .ref (u 3), .int 0, .int 0, .int 0, .ref (u 4), .int 0, .int (-1)])), ((u 1), .inl (cI, (600, .inl (fun _ => 0)))), ((u 2), .inl (cI, (601, .inl (fun _ => 0)))), ((u 3), .inl (cI, (601, .inl (fun _ => 0)))), ((u 4), .inr (9, [.int 0, .int 0, .ref (u 5), .ref (u 6), .ref (u 7), .ref (u 8), .ref (u 9), .ref (u 10)])), ((u 5), .inl (cI, (600, .inl (fun _ => 0)))), ((u 6), .inl (cI, (16, .inl (fun _ => 0)))), ((u 7), .inl (cI, (16, .inl (fun _ => 0)))), ((u 8), .inl (cI, (16, .inl (fun _ => 0)))), ((u 9), .inl (cI, (16, .inl (fun _ => 0)))), ((u 10), .inl (cI, (32, .inl (fun _ => 0))))]
set_option maxHeartbeats 8000000 in
set_option maxRecDepth 20000 in
theorem k_X4_init {l : Launch} {D : va_G} {cI cZ : ClassId} (h0 sz : Nat) : Met l yX4_init (Cond.code yX4_init cX4_init 1 none :: gT) { frames := 2, cells := 10, slots := 2506, locals := 120 } (va_Pc [.ref h0] (preK D cI cZ [(h0, .inr (4, [.null, .int 0, .null, .null, .int 0, .int 0, .int 0, .null, .int 0, .int 0]))] sz)) (va_Qv (fun u : Nat → Nat => u 0 = h0) (postK D (wl_X4_init cI cZ) (va_A [(h0, .inr (4, [.null, .int 0, .null, .null, .int 0, .int 0, .int 0, .null, .int 0, .int 0]))] sz)) (va_A [(h0, .inr (4, [.null, .int 0, .null, .null, .int 0, .int 0, .int 0, .null, .int 0, .int 0]))] sz)) 10 2506 (va_A [(h0, .inr (4, [.null, .int 0, .null, .null, .int 0, .int 0, .int 0, .null, .int 0, .int 0]))] sz) := by
  refine k_entry (y := yX4_init) (cc := cX4_init) (nL := 1) (fun sz => va_Qv (fun u : Nat → Nat => u 0 = h0) (postK D (wl_X4_init cI cZ) (va_A [(h0, .inr (4, [.null, .int 0, .null, .null, .int 0, .int 0, .int 0, .null, .int 0, .int 0]))] sz)) (va_A [(h0, .inr (4, [.null, .int 0, .null, .null, .int 0, .int 0, .int 0, .null, .int 0, .int 0]))] sz)) [(h0, .inr (4, [.null, .int 0, .null, .null, .int 0, .int 0, .int 0, .null, .int 0, .int 0]))] (by decide) rfl [.ref h0] (Nat.le_of_ble_eq_true rfl) (fun p e s m args below meth c ls C hP hD hl => ?_)
  have hl : lv_has ls 1 [(0, .ref h0)] := hl
  obtain ⟨hx, hb, hr, hml, hown, hts, hlocks, hK, hN, hin⟩ := id C
  show W p l e _ s m args below meth c s.heap [] 0 0 (MQ below (va_Qv (fun u : Nat → Nat => u 0 = h0) (postK D (wl_X4_init cI cZ) (va_A [(h0, .inr (4, [.null, .int 0, .null, .null, .int 0, .int 0, .int 0, .null, .int 0, .int 0]))] s.heap.size)) (va_A [(h0, .inr (4, [.null, .int 0, .null, .null, .int 0, .int 0, .int 0, .null, .int 0, .int 0]))] s.heap.size)) args s 10 2506 (va_A [(h0, .inr (4, [.null, .int 0, .null, .null, .int 0, .int 0, .int 0, .null, .int 0, .int 0]))] s.heap.size)) _
  generalize hAe : va_A [(h0, .inr (4, [.null, .int 0, .null, .null, .int 0, .int 0, .int 0, .null, .int 0, .int 0]))] s.heap.size = A at hD ⊢
  have hA : ∀ q : Nat, s.heap.size ≤ q → A q := fun q h => by rw [← hAe]; exact Or.inr h
  have hS : va_S A s.heap s.heap [] := va_S.rf
  refine lv_aload_n hx hb dX4_init_0 rfl (lv_at hl 0 rfl) ?_
  refine W.objInit hx hb hown (hts _ wm_t126) (hts _ wm_t27) (hts _ wm_t28) rfl (by rw [hml]; exact hl.1) rfl dX4_init_1 (Nat.le_of_ble_eq_true rfl) (Nat.le_of_ble_eq_true rfl) ?_
  refine W.eq (g2 := F0 m 4 ls []) rfl ?_
  refine lv_aload_n hx hb dX4_init_4 rfl (lv_at hl 0 rfl) ?_
  refine lv_sipush (v := 600) hx hb dX4_init_5 (by decide) ?_
  refine k_newI (N := 600) C wm_t42 hP hD hS hA (by decide) (by decide) (by decide) (by decide) (by decide) dX4_init_8 (fun q1 H hP hD hS => ?_)
  have hP : va_P D vwCl [(h0, .inr (4, [.null, .int 0, .null, .null, .int 0, .int 0, .int 0, .null, .int 0, .int 0])), (q1, .inl (cI, (600, .inl (fun _ => 0))))] H := hP
  have hD : va_D A [(h0, .inr (4, [.null, .int 0, .null, .null, .int 0, .int 0, .int 0, .null, .int 0, .int 0])), (q1, .inl (cI, (600, .inl (fun _ => 0))))] := hD
  refine W.widen (k := 1) (n := 600) (by omega) (by omega) ?_
  refine va_putF (D := D) (ci := 4) (v := .ref q1) (ty := (.array .int)) (C := RX4) (T := TX4) (N := 10) hx hb hts iX4 tyX4 tyX4_ok nmX4 hown hK hP hD hS 0 rfl rfl 0 (by decide) (hts _ wm_t162) (fun _ h9 => h9) rfl hin rfl (by decide +kernel) rfl rfl (Nat.le_of_ble_eq_true rfl) dX4_init_10 (fun H locs hP hD hS => ?_)
  have hP : va_P D vwCl [(h0, .inr (4, [.ref q1, .int 0, .null, .null, .int 0, .int 0, .int 0, .null, .int 0, .int 0])), (q1, .inl (cI, (600, .inl (fun _ => 0))))] H := hP
  have hD : va_D A [(h0, .inr (4, [.ref q1, .int 0, .null, .null, .int 0, .int 0, .int 0, .null, .int 0, .int 0])), (q1, .inl (cI, (600, .inl (fun _ => 0))))] := hD
  refine lv_aload_n hx hb dX4_init_13 rfl (lv_at hl 0 rfl) ?_
  refine lv_sipush (v := 601) hx hb dX4_init_14 (by decide) ?_
  refine k_newI (N := 601) C wm_t42 hP hD hS hA (by decide) (by decide) (by decide) (by decide) (by decide) dX4_init_17 (fun q2 H hP hD hS => ?_)
  have hP : va_P D vwCl [(h0, .inr (4, [.ref q1, .int 0, .null, .null, .int 0, .int 0, .int 0, .null, .int 0, .int 0])), (q1, .inl (cI, (600, .inl (fun _ => 0)))), (q2, .inl (cI, (601, .inl (fun _ => 0))))] H := hP
  have hD : va_D A [(h0, .inr (4, [.ref q1, .int 0, .null, .null, .int 0, .int 0, .int 0, .null, .int 0, .int 0])), (q1, .inl (cI, (600, .inl (fun _ => 0)))), (q2, .inl (cI, (601, .inl (fun _ => 0))))] := hD
  refine W.widen (k := 2) (n := 1201) (by omega) (by omega) ?_
  refine va_putF (D := D) (ci := 4) (v := .ref q2) (ty := (.array .int)) (C := RX4) (T := TX4) (N := 10) hx hb hts iX4 tyX4 tyX4_ok nmX4 hown hK hP hD hS 0 rfl rfl 2 (by decide) (hts _ wm_t164) (fun _ h9 => h9) rfl hin rfl (by decide +kernel) rfl rfl (Nat.le_of_ble_eq_true rfl) dX4_init_19 (fun H locs hP hD hS => ?_)
  have hP : va_P D vwCl [(h0, .inr (4, [.ref q1, .int 0, .ref q2, .null, .int 0, .int 0, .int 0, .null, .int 0, .int 0])), (q1, .inl (cI, (600, .inl (fun _ => 0)))), (q2, .inl (cI, (601, .inl (fun _ => 0))))] H := hP
  have hD : va_D A [(h0, .inr (4, [.ref q1, .int 0, .ref q2, .null, .int 0, .int 0, .int 0, .null, .int 0, .int 0])), (q1, .inl (cI, (600, .inl (fun _ => 0)))), (q2, .inl (cI, (601, .inl (fun _ => 0))))] := hD
  refine lv_aload_n hx hb dX4_init_22 rfl (lv_at hl 0 rfl) ?_
  refine lv_sipush (v := 601) hx hb dX4_init_23 (by decide) ?_
  refine k_newI (N := 601) C wm_t42 hP hD hS hA (by decide) (by decide) (by decide) (by decide) (by decide) dX4_init_26 (fun q3 H hP hD hS => ?_)
  have hP : va_P D vwCl [(h0, .inr (4, [.ref q1, .int 0, .ref q2, .null, .int 0, .int 0, .int 0, .null, .int 0, .int 0])), (q1, .inl (cI, (600, .inl (fun _ => 0)))), (q2, .inl (cI, (601, .inl (fun _ => 0)))), (q3, .inl (cI, (601, .inl (fun _ => 0))))] H := hP
  have hD : va_D A [(h0, .inr (4, [.ref q1, .int 0, .ref q2, .null, .int 0, .int 0, .int 0, .null, .int 0, .int 0])), (q1, .inl (cI, (600, .inl (fun _ => 0)))), (q2, .inl (cI, (601, .inl (fun _ => 0)))), (q3, .inl (cI, (601, .inl (fun _ => 0))))] := hD
  refine W.widen (k := 3) (n := 1802) (by omega) (by omega) ?_
  refine va_putF (D := D) (ci := 4) (v := .ref q3) (ty := (.array .int)) (C := RX4) (T := TX4) (N := 10) hx hb hts iX4 tyX4 tyX4_ok nmX4 hown hK hP hD hS 0 rfl rfl 3 (by decide) (hts _ wm_t165) (fun _ h9 => h9) rfl hin rfl (by decide +kernel) rfl rfl (Nat.le_of_ble_eq_true rfl) dX4_init_28 (fun H locs hP hD hS => ?_)
  have hP : va_P D vwCl [(h0, .inr (4, [.ref q1, .int 0, .ref q2, .ref q3, .int 0, .int 0, .int 0, .null, .int 0, .int 0])), (q1, .inl (cI, (600, .inl (fun _ => 0)))), (q2, .inl (cI, (601, .inl (fun _ => 0)))), (q3, .inl (cI, (601, .inl (fun _ => 0))))] H := hP
  have hD : va_D A [(h0, .inr (4, [.ref q1, .int 0, .ref q2, .ref q3, .int 0, .int 0, .int 0, .null, .int 0, .int 0])), (q1, .inl (cI, (600, .inl (fun _ => 0)))), (q2, .inl (cI, (601, .inl (fun _ => 0)))), (q3, .inl (cI, (601, .inl (fun _ => 0))))] := hD
  refine lv_aload_n hx hb dX4_init_31 rfl (lv_at hl 0 rfl) ?_
  refine va_new (ci := 9) (fs := [.int 0, .int 0, .null, .null, .null, .null, .null, .null]) (C := RX9) (T := TX9) (N := 8) hx hb hts iX9 tyX9 tyX9_ok hown (hts _ wm_t127) (hts _ wm_t128) (hts _ wm_t7) hK hP hD hS hA rfl (by decide) (by decide) (by decide) dX4_init_32 (fun q4 H hP hD hS => ?_)
  have hP : va_P D vwCl [(h0, .inr (4, [.ref q1, .int 0, .ref q2, .ref q3, .int 0, .int 0, .int 0, .null, .int 0, .int 0])), (q1, .inl (cI, (600, .inl (fun _ => 0)))), (q2, .inl (cI, (601, .inl (fun _ => 0)))), (q3, .inl (cI, (601, .inl (fun _ => 0)))), (q4, .inr (9, [.int 0, .int 0, .null, .null, .null, .null, .null, .null]))] H := hP
  have hD : va_D A [(h0, .inr (4, [.ref q1, .int 0, .ref q2, .ref q3, .int 0, .int 0, .int 0, .null, .int 0, .int 0])), (q1, .inl (cI, (600, .inl (fun _ => 0)))), (q2, .inl (cI, (601, .inl (fun _ => 0)))), (q3, .inl (cI, (601, .inl (fun _ => 0)))), (q4, .inr (9, [.int 0, .int 0, .null, .null, .null, .null, .null, .null]))] := hD
  refine W.widen (k := 4) (n := 1810) (by omega) (by omega) ?_
  refine lv_dup hx hb dX4_init_35 rfl ?_
  refine k_call (n := 0) (As := []) (rest := [.ref q4, .ref h0]) (host := "SoupCargo") (wr := [(h0, .inr (4, [.ref q1, .int 0, .ref q2, .ref q3, .int 0, .int 0, .int 0, .null, .int 0, .int 0])), (q1, .inl (cI, (600, .inl (fun _ => 0)))), (q2, .inl (cI, (601, .inl (fun _ => 0)))), (q3, .inl (cI, (601, .inl (fun _ => 0))))]) (wl := wl_X9_init cI cZ) ⟨hx, hb, hml, hown, hts⟩ hK hN (k_X9_init q4 H.size) (Or.inr (by decide +kernel)) wm_t131 wm_t7 wm_t130 rfl (by decide +kernel) ⟨rfl, rfl, by decide, by decide⟩ rfl rfl (Nat.le_of_ble_eq_true rfl) dX4_init_36 (by decide) hl.1 hP hD hS hA [4] [0, 1, 2, 3] rfl rfl (by decide) (by decide) (by decide) rfl (fun u5 H locs hu5 hP hD hS => ?_)
  rw [← hu5]
  have hP : va_P D vwCl [(h0, .inr (4, [.ref q1, .int 0, .ref q2, .ref q3, .int 0, .int 0, .int 0, .null, .int 0, .int 0])), (q1, .inl (cI, (600, .inl (fun _ => 0)))), (q2, .inl (cI, (601, .inl (fun _ => 0)))), (q3, .inl (cI, (601, .inl (fun _ => 0)))), ((u5 0), .inr (9, [.int 0, .int 0, .ref (u5 1), .ref (u5 2), .ref (u5 3), .ref (u5 4), .ref (u5 5), .ref (u5 6)])), ((u5 1), .inl (cI, (600, .inl (fun _ => 0)))), ((u5 2), .inl (cI, (16, .inl (fun _ => 0)))), ((u5 3), .inl (cI, (16, .inl (fun _ => 0)))), ((u5 4), .inl (cI, (16, .inl (fun _ => 0)))), ((u5 5), .inl (cI, (16, .inl (fun _ => 0)))), ((u5 6), .inl (cI, (32, .inl (fun _ => 0))))] H := hP
  have hD : va_D A [(h0, .inr (4, [.ref q1, .int 0, .ref q2, .ref q3, .int 0, .int 0, .int 0, .null, .int 0, .int 0])), (q1, .inl (cI, (600, .inl (fun _ => 0)))), (q2, .inl (cI, (601, .inl (fun _ => 0)))), (q3, .inl (cI, (601, .inl (fun _ => 0)))), ((u5 0), .inr (9, [.int 0, .int 0, .ref (u5 1), .ref (u5 2), .ref (u5 3), .ref (u5 4), .ref (u5 5), .ref (u5 6)])), ((u5 1), .inl (cI, (600, .inl (fun _ => 0)))), ((u5 2), .inl (cI, (16, .inl (fun _ => 0)))), ((u5 3), .inl (cI, (16, .inl (fun _ => 0)))), ((u5 4), .inl (cI, (16, .inl (fun _ => 0)))), ((u5 5), .inl (cI, (16, .inl (fun _ => 0)))), ((u5 6), .inl (cI, (32, .inl (fun _ => 0))))] := hD
  refine W.widen (k := 10) (n := 2506) (by omega) (by omega) ?_
  refine va_put (D := D) (ci := 4) (v := .ref (u5 0)) (ty := (.object "SoupCargo$Words")) (C := RX4) (T := TX4) (N := 10) hx hb hts iX4 tyX4 tyX4_ok nmX4 hown hK hP hD hS 0 rfl rfl 7 (by decide) (hts _ wm_t169) (fun _ h9 => h9) rfl (by decide +kernel) rfl rfl (Nat.le_of_ble_eq_true rfl) dX4_init_39 (fun H locs hP hD hS => ?_)
  have hP : va_P D vwCl [(h0, .inr (4, [.ref q1, .int 0, .ref q2, .ref q3, .int 0, .int 0, .int 0, .ref (u5 0), .int 0, .int 0])), (q1, .inl (cI, (600, .inl (fun _ => 0)))), (q2, .inl (cI, (601, .inl (fun _ => 0)))), (q3, .inl (cI, (601, .inl (fun _ => 0)))), ((u5 0), .inr (9, [.int 0, .int 0, .ref (u5 1), .ref (u5 2), .ref (u5 3), .ref (u5 4), .ref (u5 5), .ref (u5 6)])), ((u5 1), .inl (cI, (600, .inl (fun _ => 0)))), ((u5 2), .inl (cI, (16, .inl (fun _ => 0)))), ((u5 3), .inl (cI, (16, .inl (fun _ => 0)))), ((u5 4), .inl (cI, (16, .inl (fun _ => 0)))), ((u5 5), .inl (cI, (16, .inl (fun _ => 0)))), ((u5 6), .inl (cI, (32, .inl (fun _ => 0))))] H := hP
  have hD : va_D A [(h0, .inr (4, [.ref q1, .int 0, .ref q2, .ref q3, .int 0, .int 0, .int 0, .ref (u5 0), .int 0, .int 0])), (q1, .inl (cI, (600, .inl (fun _ => 0)))), (q2, .inl (cI, (601, .inl (fun _ => 0)))), (q3, .inl (cI, (601, .inl (fun _ => 0)))), ((u5 0), .inr (9, [.int 0, .int 0, .ref (u5 1), .ref (u5 2), .ref (u5 3), .ref (u5 4), .ref (u5 5), .ref (u5 6)])), ((u5 1), .inl (cI, (600, .inl (fun _ => 0)))), ((u5 2), .inl (cI, (16, .inl (fun _ => 0)))), ((u5 3), .inl (cI, (16, .inl (fun _ => 0)))), ((u5 4), .inl (cI, (16, .inl (fun _ => 0)))), ((u5 5), .inl (cI, (16, .inl (fun _ => 0)))), ((u5 6), .inl (cI, (32, .inl (fun _ => 0))))] := hD
  refine lv_aload_n hx hb dX4_init_42 rfl (lv_at hl 0 rfl) ?_
  refine lv_iconst (v := (-1)) hx hb dX4_init_43 (by decide) ?_
  refine va_put (D := D) (ci := 4) (v := .int (-1)) (ty := .int) (C := RX4) (T := TX4) (N := 10) hx hb hts iX4 tyX4 tyX4_ok nmX4 hown hK hP hD hS 0 rfl rfl 9 (by decide) (hts _ wm_t172) (fun _ h9 => h9) rfl (by decide +kernel) rfl rfl (Nat.le_of_ble_eq_true rfl) dX4_init_44 (fun H locs hP hD hS => ?_)
  have hP : va_P D vwCl [(h0, .inr (4, [.ref q1, .int 0, .ref q2, .ref q3, .int 0, .int 0, .int 0, .ref (u5 0), .int 0, .int (-1)])), (q1, .inl (cI, (600, .inl (fun _ => 0)))), (q2, .inl (cI, (601, .inl (fun _ => 0)))), (q3, .inl (cI, (601, .inl (fun _ => 0)))), ((u5 0), .inr (9, [.int 0, .int 0, .ref (u5 1), .ref (u5 2), .ref (u5 3), .ref (u5 4), .ref (u5 5), .ref (u5 6)])), ((u5 1), .inl (cI, (600, .inl (fun _ => 0)))), ((u5 2), .inl (cI, (16, .inl (fun _ => 0)))), ((u5 3), .inl (cI, (16, .inl (fun _ => 0)))), ((u5 4), .inl (cI, (16, .inl (fun _ => 0)))), ((u5 5), .inl (cI, (16, .inl (fun _ => 0)))), ((u5 6), .inl (cI, (32, .inl (fun _ => 0))))] H := hP
  have hD : va_D A [(h0, .inr (4, [.ref q1, .int 0, .ref q2, .ref q3, .int 0, .int 0, .int 0, .ref (u5 0), .int 0, .int (-1)])), (q1, .inl (cI, (600, .inl (fun _ => 0)))), (q2, .inl (cI, (601, .inl (fun _ => 0)))), (q3, .inl (cI, (601, .inl (fun _ => 0)))), ((u5 0), .inr (9, [.int 0, .int 0, .ref (u5 1), .ref (u5 2), .ref (u5 3), .ref (u5 4), .ref (u5 5), .ref (u5 6)])), ((u5 1), .inl (cI, (600, .inl (fun _ => 0)))), ((u5 2), .inl (cI, (16, .inl (fun _ => 0)))), ((u5 3), .inl (cI, (16, .inl (fun _ => 0)))), ((u5 4), .inl (cI, (16, .inl (fun _ => 0)))), ((u5 5), .inl (cI, (16, .inl (fun _ => 0)))), ((u5 6), .inl (cI, (32, .inl (fun _ => 0))))] := hD
  refine W.widen (k := 10) (n := 2506) (by omega) (by omega) ?_
  exact W.vret hx hb hr (fun t ht hW => ⟨⟨(uof [h0, q1, q2, q3, (u5 0), (u5 1), (u5 2), (u5 3), (u5 4), (u5 5), (u5 6)]), rfl, rfl, by show va_P _ _ _ t.heap; rw [ht]; exact hP, hD⟩, hS.F ht⟩) hS.2.2 dX4_init_47 hlocks

def wl_X2_init (cI cZ : ClassId) (u : Nat → Nat) : va_W := [((u 0), .inr (2, [.ref (u 1), .int 0, .ref (u 8)])), ((u 1), .inr (9, [.int 0, .int 0, .ref (u 2), .ref (u 3), .ref (u 4), .ref (u 5), .ref (u 6), .ref (u 7)])), ((u 2), .inl (cI, (600, .inl (fun _ => 0)))), ((u 3), .inl (cI, (16, .inl (fun _ => 0)))), ((u 4), .inl (cI, (16, .inl (fun _ => 0)))), ((u 5), .inl (cI, (16, .inl (fun _ => 0)))), ((u 6), .inl (cI, (16, .inl (fun _ => 0)))), ((u 7), .inl (cI, (32, .inl (fun _ => 0)))), ((u 8), .inl (cI, (9, .inl (fun _ => 0))))]
set_option maxHeartbeats 8000000 in
set_option maxRecDepth 20000 in
theorem k_X2_init {l : Launch} {D : va_G} {cI cZ : ClassId} (h0 sz : Nat) : Met l yX2_init (Cond.code yX2_init cX2_init 1 none :: gT) { frames := 2, cells := 8, slots := 713, locals := 120 } (va_Pc [.ref h0] (preK D cI cZ [(h0, .inr (2, [.null, .int 0, .null]))] sz)) (va_Qv (fun u : Nat → Nat => u 0 = h0) (postK D (wl_X2_init cI cZ) (va_A [(h0, .inr (2, [.null, .int 0, .null]))] sz)) (va_A [(h0, .inr (2, [.null, .int 0, .null]))] sz)) 8 713 (va_A [(h0, .inr (2, [.null, .int 0, .null]))] sz) := by
  refine k_entry (y := yX2_init) (cc := cX2_init) (nL := 1) (fun sz => va_Qv (fun u : Nat → Nat => u 0 = h0) (postK D (wl_X2_init cI cZ) (va_A [(h0, .inr (2, [.null, .int 0, .null]))] sz)) (va_A [(h0, .inr (2, [.null, .int 0, .null]))] sz)) [(h0, .inr (2, [.null, .int 0, .null]))] (by decide) rfl [.ref h0] (Nat.le_of_ble_eq_true rfl) (fun p e s m args below meth c ls C hP hD hl => ?_)
  have hl : lv_has ls 1 [(0, .ref h0)] := hl
  obtain ⟨hx, hb, hr, hml, hown, hts, hlocks, hK, hN, hin⟩ := id C
  show W p l e _ s m args below meth c s.heap [] 0 0 (MQ below (va_Qv (fun u : Nat → Nat => u 0 = h0) (postK D (wl_X2_init cI cZ) (va_A [(h0, .inr (2, [.null, .int 0, .null]))] s.heap.size)) (va_A [(h0, .inr (2, [.null, .int 0, .null]))] s.heap.size)) args s 8 713 (va_A [(h0, .inr (2, [.null, .int 0, .null]))] s.heap.size)) _
  generalize hAe : va_A [(h0, .inr (2, [.null, .int 0, .null]))] s.heap.size = A at hD ⊢
  have hA : ∀ q : Nat, s.heap.size ≤ q → A q := fun q h => by rw [← hAe]; exact Or.inr h
  have hS : va_S A s.heap s.heap [] := va_S.rf
  refine lv_aload_n hx hb dX2_init_0 rfl (lv_at hl 0 rfl) ?_
  refine W.objInit hx hb hown (hts _ wm_t200) (hts _ wm_t27) (hts _ wm_t28) rfl (by rw [hml]; exact hl.1) rfl dX2_init_1 (Nat.le_of_ble_eq_true rfl) (Nat.le_of_ble_eq_true rfl) ?_
  refine W.eq (g2 := F0 m 4 ls []) rfl ?_
  refine lv_aload_n hx hb dX2_init_4 rfl (lv_at hl 0 rfl) ?_
  refine va_new (ci := 9) (fs := [.int 0, .int 0, .null, .null, .null, .null, .null, .null]) (C := RX9) (T := TX9) (N := 8) hx hb hts iX9 tyX9 tyX9_ok hown (hts _ wm_t201) (hts _ wm_t128) (hts _ wm_t7) hK hP hD hS hA rfl (by decide) (by decide) (by decide) dX2_init_5 (fun q1 H hP hD hS => ?_)
  have hP : va_P D vwCl [(h0, .inr (2, [.null, .int 0, .null])), (q1, .inr (9, [.int 0, .int 0, .null, .null, .null, .null, .null, .null]))] H := hP
  have hD : va_D A [(h0, .inr (2, [.null, .int 0, .null])), (q1, .inr (9, [.int 0, .int 0, .null, .null, .null, .null, .null, .null]))] := hD
  refine W.widen (k := 1) (n := 8) (by omega) (by omega) ?_
  refine lv_dup hx hb dX2_init_8 rfl ?_
  refine k_call (n := 0) (As := []) (rest := [.ref q1, .ref h0]) (host := "SoupCargo") (wr := [(h0, .inr (2, [.null, .int 0, .null]))]) (wl := wl_X9_init cI cZ) ⟨hx, hb, hml, hown, hts⟩ hK hN (k_X9_init q1 H.size) (Or.inr (by decide +kernel)) wm_t131 wm_t7 wm_t130 rfl (by decide +kernel) ⟨rfl, rfl, by decide, by decide⟩ rfl rfl (Nat.le_of_ble_eq_true rfl) dX2_init_9 (by decide) hl.1 hP hD hS hA [1] [0] rfl rfl (by decide) (by decide) (by decide) rfl (fun u2 H locs hu2 hP hD hS => ?_)
  rw [← hu2]
  have hP : va_P D vwCl [(h0, .inr (2, [.null, .int 0, .null])), ((u2 0), .inr (9, [.int 0, .int 0, .ref (u2 1), .ref (u2 2), .ref (u2 3), .ref (u2 4), .ref (u2 5), .ref (u2 6)])), ((u2 1), .inl (cI, (600, .inl (fun _ => 0)))), ((u2 2), .inl (cI, (16, .inl (fun _ => 0)))), ((u2 3), .inl (cI, (16, .inl (fun _ => 0)))), ((u2 4), .inl (cI, (16, .inl (fun _ => 0)))), ((u2 5), .inl (cI, (16, .inl (fun _ => 0)))), ((u2 6), .inl (cI, (32, .inl (fun _ => 0))))] H := hP
  have hD : va_D A [(h0, .inr (2, [.null, .int 0, .null])), ((u2 0), .inr (9, [.int 0, .int 0, .ref (u2 1), .ref (u2 2), .ref (u2 3), .ref (u2 4), .ref (u2 5), .ref (u2 6)])), ((u2 1), .inl (cI, (600, .inl (fun _ => 0)))), ((u2 2), .inl (cI, (16, .inl (fun _ => 0)))), ((u2 3), .inl (cI, (16, .inl (fun _ => 0)))), ((u2 4), .inl (cI, (16, .inl (fun _ => 0)))), ((u2 5), .inl (cI, (16, .inl (fun _ => 0)))), ((u2 6), .inl (cI, (32, .inl (fun _ => 0))))] := hD
  refine W.widen (k := 7) (n := 704) (by omega) (by omega) ?_
  refine va_put (D := D) (ci := 2) (v := .ref (u2 0)) (ty := (.object "SoupCargo$Words")) (C := RX2) (T := TX2) (N := 3) hx hb hts iX2 tyX2 tyX2_ok nmX2 hown hK hP hD hS 0 rfl rfl 0 (by decide) (hts _ wm_t203) (fun _ h9 => h9) rfl (by decide +kernel) rfl rfl (Nat.le_of_ble_eq_true rfl) dX2_init_12 (fun H locs hP hD hS => ?_)
  have hP : va_P D vwCl [(h0, .inr (2, [.ref (u2 0), .int 0, .null])), ((u2 0), .inr (9, [.int 0, .int 0, .ref (u2 1), .ref (u2 2), .ref (u2 3), .ref (u2 4), .ref (u2 5), .ref (u2 6)])), ((u2 1), .inl (cI, (600, .inl (fun _ => 0)))), ((u2 2), .inl (cI, (16, .inl (fun _ => 0)))), ((u2 3), .inl (cI, (16, .inl (fun _ => 0)))), ((u2 4), .inl (cI, (16, .inl (fun _ => 0)))), ((u2 5), .inl (cI, (16, .inl (fun _ => 0)))), ((u2 6), .inl (cI, (32, .inl (fun _ => 0))))] H := hP
  have hD : va_D A [(h0, .inr (2, [.ref (u2 0), .int 0, .null])), ((u2 0), .inr (9, [.int 0, .int 0, .ref (u2 1), .ref (u2 2), .ref (u2 3), .ref (u2 4), .ref (u2 5), .ref (u2 6)])), ((u2 1), .inl (cI, (600, .inl (fun _ => 0)))), ((u2 2), .inl (cI, (16, .inl (fun _ => 0)))), ((u2 3), .inl (cI, (16, .inl (fun _ => 0)))), ((u2 4), .inl (cI, (16, .inl (fun _ => 0)))), ((u2 5), .inl (cI, (16, .inl (fun _ => 0)))), ((u2 6), .inl (cI, (32, .inl (fun _ => 0))))] := hD
  refine lv_aload_n hx hb dX2_init_15 rfl (lv_at hl 0 rfl) ?_
  refine lv_bipush (v := 9) hx hb dX2_init_16 (by decide) ?_
  refine k_newI (N := 9) C wm_t42 hP hD hS hA (by decide) (by decide) (by decide) (by decide) (by decide) dX2_init_18 (fun q3 H hP hD hS => ?_)
  have hP : va_P D vwCl [(h0, .inr (2, [.ref (u2 0), .int 0, .null])), ((u2 0), .inr (9, [.int 0, .int 0, .ref (u2 1), .ref (u2 2), .ref (u2 3), .ref (u2 4), .ref (u2 5), .ref (u2 6)])), ((u2 1), .inl (cI, (600, .inl (fun _ => 0)))), ((u2 2), .inl (cI, (16, .inl (fun _ => 0)))), ((u2 3), .inl (cI, (16, .inl (fun _ => 0)))), ((u2 4), .inl (cI, (16, .inl (fun _ => 0)))), ((u2 5), .inl (cI, (16, .inl (fun _ => 0)))), ((u2 6), .inl (cI, (32, .inl (fun _ => 0)))), (q3, .inl (cI, (9, .inl (fun _ => 0))))] H := hP
  have hD : va_D A [(h0, .inr (2, [.ref (u2 0), .int 0, .null])), ((u2 0), .inr (9, [.int 0, .int 0, .ref (u2 1), .ref (u2 2), .ref (u2 3), .ref (u2 4), .ref (u2 5), .ref (u2 6)])), ((u2 1), .inl (cI, (600, .inl (fun _ => 0)))), ((u2 2), .inl (cI, (16, .inl (fun _ => 0)))), ((u2 3), .inl (cI, (16, .inl (fun _ => 0)))), ((u2 4), .inl (cI, (16, .inl (fun _ => 0)))), ((u2 5), .inl (cI, (16, .inl (fun _ => 0)))), ((u2 6), .inl (cI, (32, .inl (fun _ => 0)))), (q3, .inl (cI, (9, .inl (fun _ => 0))))] := hD
  refine W.widen (k := 8) (n := 713) (by omega) (by omega) ?_
  refine va_putF (D := D) (ci := 2) (v := .ref q3) (ty := (.array .int)) (C := RX2) (T := TX2) (N := 3) hx hb hts iX2 tyX2 tyX2_ok nmX2 hown hK hP hD hS 0 rfl rfl 2 (by decide) (hts _ wm_t207) (fun _ h9 => h9) rfl hin rfl (by decide +kernel) rfl rfl (Nat.le_of_ble_eq_true rfl) dX2_init_20 (fun H locs hP hD hS => ?_)
  have hP : va_P D vwCl [(h0, .inr (2, [.ref (u2 0), .int 0, .ref q3])), ((u2 0), .inr (9, [.int 0, .int 0, .ref (u2 1), .ref (u2 2), .ref (u2 3), .ref (u2 4), .ref (u2 5), .ref (u2 6)])), ((u2 1), .inl (cI, (600, .inl (fun _ => 0)))), ((u2 2), .inl (cI, (16, .inl (fun _ => 0)))), ((u2 3), .inl (cI, (16, .inl (fun _ => 0)))), ((u2 4), .inl (cI, (16, .inl (fun _ => 0)))), ((u2 5), .inl (cI, (16, .inl (fun _ => 0)))), ((u2 6), .inl (cI, (32, .inl (fun _ => 0)))), (q3, .inl (cI, (9, .inl (fun _ => 0))))] H := hP
  have hD : va_D A [(h0, .inr (2, [.ref (u2 0), .int 0, .ref q3])), ((u2 0), .inr (9, [.int 0, .int 0, .ref (u2 1), .ref (u2 2), .ref (u2 3), .ref (u2 4), .ref (u2 5), .ref (u2 6)])), ((u2 1), .inl (cI, (600, .inl (fun _ => 0)))), ((u2 2), .inl (cI, (16, .inl (fun _ => 0)))), ((u2 3), .inl (cI, (16, .inl (fun _ => 0)))), ((u2 4), .inl (cI, (16, .inl (fun _ => 0)))), ((u2 5), .inl (cI, (16, .inl (fun _ => 0)))), ((u2 6), .inl (cI, (32, .inl (fun _ => 0)))), (q3, .inl (cI, (9, .inl (fun _ => 0))))] := hD
  refine W.widen (k := 8) (n := 713) (by omega) (by omega) ?_
  exact W.vret hx hb hr (fun t ht hW => ⟨⟨(uof [h0, (u2 0), (u2 1), (u2 2), (u2 3), (u2 4), (u2 5), (u2 6), q3]), rfl, rfl, by show va_P _ _ _ t.heap; rw [ht]; exact hP, hD⟩, hS.F ht⟩) hS.2.2 dX2_init_23 hlocks

def wl_X1_init (cI cZ : ClassId) (u : Nat → Nat) : va_W := [((u 0), .inr (1, [.ref (u 1), .int 0, .ref (u 8), .ref (u 9), .ref (u 10)])), ((u 1), .inr (9, [.int 0, .int 0, .ref (u 2), .ref (u 3), .ref (u 4), .ref (u 5), .ref (u 6), .ref (u 7)])), ((u 2), .inl (cI, (600, .inl (fun _ => 0)))), ((u 3), .inl (cI, (16, .inl (fun _ => 0)))), ((u 4), .inl (cI, (16, .inl (fun _ => 0)))), ((u 5), .inl (cI, (16, .inl (fun _ => 0)))), ((u 6), .inl (cI, (16, .inl (fun _ => 0)))), ((u 7), .inl (cI, (32, .inl (fun _ => 0)))), ((u 8), .inl (cI, (21, .inl (fun _ => 0)))), ((u 9), .inl (cI, (21, .inl (fun _ => 0)))), ((u 10), .inl (cI, (8, .inl (fun _ => 0))))]
set_option maxHeartbeats 8000000 in
set_option maxRecDepth 20000 in
theorem k_X1_init {l : Launch} {D : va_G} {cI cZ : ClassId} (h0 sz : Nat) : Met l yX1_init (Cond.code yX1_init cX1_init 1 none :: gT) { frames := 2, cells := 10, slots := 754, locals := 120 } (va_Pc [.ref h0] (preK D cI cZ [(h0, .inr (1, [.null, .int 0, .null, .null, .null]))] sz)) (va_Qv (fun u : Nat → Nat => u 0 = h0) (postK D (wl_X1_init cI cZ) (va_A [(h0, .inr (1, [.null, .int 0, .null, .null, .null]))] sz)) (va_A [(h0, .inr (1, [.null, .int 0, .null, .null, .null]))] sz)) 10 754 (va_A [(h0, .inr (1, [.null, .int 0, .null, .null, .null]))] sz) := by
  refine k_entry (y := yX1_init) (cc := cX1_init) (nL := 1) (fun sz => va_Qv (fun u : Nat → Nat => u 0 = h0) (postK D (wl_X1_init cI cZ) (va_A [(h0, .inr (1, [.null, .int 0, .null, .null, .null]))] sz)) (va_A [(h0, .inr (1, [.null, .int 0, .null, .null, .null]))] sz)) [(h0, .inr (1, [.null, .int 0, .null, .null, .null]))] (by decide) rfl [.ref h0] (Nat.le_of_ble_eq_true rfl) (fun p e s m args below meth c ls C hP hD hl => ?_)
  have hl : lv_has ls 1 [(0, .ref h0)] := hl
  obtain ⟨hx, hb, hr, hml, hown, hts, hlocks, hK, hN, hin⟩ := id C
  show W p l e _ s m args below meth c s.heap [] 0 0 (MQ below (va_Qv (fun u : Nat → Nat => u 0 = h0) (postK D (wl_X1_init cI cZ) (va_A [(h0, .inr (1, [.null, .int 0, .null, .null, .null]))] s.heap.size)) (va_A [(h0, .inr (1, [.null, .int 0, .null, .null, .null]))] s.heap.size)) args s 10 754 (va_A [(h0, .inr (1, [.null, .int 0, .null, .null, .null]))] s.heap.size)) _
  generalize hAe : va_A [(h0, .inr (1, [.null, .int 0, .null, .null, .null]))] s.heap.size = A at hD ⊢
  have hA : ∀ q : Nat, s.heap.size ≤ q → A q := fun q h => by rw [← hAe]; exact Or.inr h
  have hS : va_S A s.heap s.heap [] := va_S.rf
  refine lv_aload_n hx hb dX1_init_0 rfl (lv_at hl 0 rfl) ?_
  refine W.objInit hx hb hown (hts _ wm_t220) (hts _ wm_t27) (hts _ wm_t28) rfl (by rw [hml]; exact hl.1) rfl dX1_init_1 (Nat.le_of_ble_eq_true rfl) (Nat.le_of_ble_eq_true rfl) ?_
  refine W.eq (g2 := F0 m 4 ls []) rfl ?_
  refine lv_aload_n hx hb dX1_init_4 rfl (lv_at hl 0 rfl) ?_
  refine va_new (ci := 9) (fs := [.int 0, .int 0, .null, .null, .null, .null, .null, .null]) (C := RX9) (T := TX9) (N := 8) hx hb hts iX9 tyX9 tyX9_ok hown (hts _ wm_t221) (hts _ wm_t128) (hts _ wm_t7) hK hP hD hS hA rfl (by decide) (by decide) (by decide) dX1_init_5 (fun q1 H hP hD hS => ?_)
  have hP : va_P D vwCl [(h0, .inr (1, [.null, .int 0, .null, .null, .null])), (q1, .inr (9, [.int 0, .int 0, .null, .null, .null, .null, .null, .null]))] H := hP
  have hD : va_D A [(h0, .inr (1, [.null, .int 0, .null, .null, .null])), (q1, .inr (9, [.int 0, .int 0, .null, .null, .null, .null, .null, .null]))] := hD
  refine W.widen (k := 1) (n := 8) (by omega) (by omega) ?_
  refine lv_dup hx hb dX1_init_8 rfl ?_
  refine k_call (n := 0) (As := []) (rest := [.ref q1, .ref h0]) (host := "SoupCargo") (wr := [(h0, .inr (1, [.null, .int 0, .null, .null, .null]))]) (wl := wl_X9_init cI cZ) ⟨hx, hb, hml, hown, hts⟩ hK hN (k_X9_init q1 H.size) (Or.inr (by decide +kernel)) wm_t131 wm_t7 wm_t130 rfl (by decide +kernel) ⟨rfl, rfl, by decide, by decide⟩ rfl rfl (Nat.le_of_ble_eq_true rfl) dX1_init_9 (by decide) hl.1 hP hD hS hA [1] [0] rfl rfl (by decide) (by decide) (by decide) rfl (fun u2 H locs hu2 hP hD hS => ?_)
  rw [← hu2]
  have hP : va_P D vwCl [(h0, .inr (1, [.null, .int 0, .null, .null, .null])), ((u2 0), .inr (9, [.int 0, .int 0, .ref (u2 1), .ref (u2 2), .ref (u2 3), .ref (u2 4), .ref (u2 5), .ref (u2 6)])), ((u2 1), .inl (cI, (600, .inl (fun _ => 0)))), ((u2 2), .inl (cI, (16, .inl (fun _ => 0)))), ((u2 3), .inl (cI, (16, .inl (fun _ => 0)))), ((u2 4), .inl (cI, (16, .inl (fun _ => 0)))), ((u2 5), .inl (cI, (16, .inl (fun _ => 0)))), ((u2 6), .inl (cI, (32, .inl (fun _ => 0))))] H := hP
  have hD : va_D A [(h0, .inr (1, [.null, .int 0, .null, .null, .null])), ((u2 0), .inr (9, [.int 0, .int 0, .ref (u2 1), .ref (u2 2), .ref (u2 3), .ref (u2 4), .ref (u2 5), .ref (u2 6)])), ((u2 1), .inl (cI, (600, .inl (fun _ => 0)))), ((u2 2), .inl (cI, (16, .inl (fun _ => 0)))), ((u2 3), .inl (cI, (16, .inl (fun _ => 0)))), ((u2 4), .inl (cI, (16, .inl (fun _ => 0)))), ((u2 5), .inl (cI, (16, .inl (fun _ => 0)))), ((u2 6), .inl (cI, (32, .inl (fun _ => 0))))] := hD
  refine W.widen (k := 7) (n := 704) (by omega) (by omega) ?_
  refine va_put (D := D) (ci := 1) (v := .ref (u2 0)) (ty := (.object "SoupCargo$Words")) (C := RX1) (T := TX1) (N := 5) hx hb hts iX1 tyX1 tyX1_ok nmX1 hown hK hP hD hS 0 rfl rfl 0 (by decide) (hts _ wm_t223) (fun _ h9 => h9) rfl (by decide +kernel) rfl rfl (Nat.le_of_ble_eq_true rfl) dX1_init_12 (fun H locs hP hD hS => ?_)
  have hP : va_P D vwCl [(h0, .inr (1, [.ref (u2 0), .int 0, .null, .null, .null])), ((u2 0), .inr (9, [.int 0, .int 0, .ref (u2 1), .ref (u2 2), .ref (u2 3), .ref (u2 4), .ref (u2 5), .ref (u2 6)])), ((u2 1), .inl (cI, (600, .inl (fun _ => 0)))), ((u2 2), .inl (cI, (16, .inl (fun _ => 0)))), ((u2 3), .inl (cI, (16, .inl (fun _ => 0)))), ((u2 4), .inl (cI, (16, .inl (fun _ => 0)))), ((u2 5), .inl (cI, (16, .inl (fun _ => 0)))), ((u2 6), .inl (cI, (32, .inl (fun _ => 0))))] H := hP
  have hD : va_D A [(h0, .inr (1, [.ref (u2 0), .int 0, .null, .null, .null])), ((u2 0), .inr (9, [.int 0, .int 0, .ref (u2 1), .ref (u2 2), .ref (u2 3), .ref (u2 4), .ref (u2 5), .ref (u2 6)])), ((u2 1), .inl (cI, (600, .inl (fun _ => 0)))), ((u2 2), .inl (cI, (16, .inl (fun _ => 0)))), ((u2 3), .inl (cI, (16, .inl (fun _ => 0)))), ((u2 4), .inl (cI, (16, .inl (fun _ => 0)))), ((u2 5), .inl (cI, (16, .inl (fun _ => 0)))), ((u2 6), .inl (cI, (32, .inl (fun _ => 0))))] := hD
  refine lv_aload_n hx hb dX1_init_15 rfl (lv_at hl 0 rfl) ?_
  refine lv_bipush (v := 21) hx hb dX1_init_16 (by decide) ?_
  refine k_newI (N := 21) C wm_t42 hP hD hS hA (by decide) (by decide) (by decide) (by decide) (by decide) dX1_init_18 (fun q3 H hP hD hS => ?_)
  have hP : va_P D vwCl [(h0, .inr (1, [.ref (u2 0), .int 0, .null, .null, .null])), ((u2 0), .inr (9, [.int 0, .int 0, .ref (u2 1), .ref (u2 2), .ref (u2 3), .ref (u2 4), .ref (u2 5), .ref (u2 6)])), ((u2 1), .inl (cI, (600, .inl (fun _ => 0)))), ((u2 2), .inl (cI, (16, .inl (fun _ => 0)))), ((u2 3), .inl (cI, (16, .inl (fun _ => 0)))), ((u2 4), .inl (cI, (16, .inl (fun _ => 0)))), ((u2 5), .inl (cI, (16, .inl (fun _ => 0)))), ((u2 6), .inl (cI, (32, .inl (fun _ => 0)))), (q3, .inl (cI, (21, .inl (fun _ => 0))))] H := hP
  have hD : va_D A [(h0, .inr (1, [.ref (u2 0), .int 0, .null, .null, .null])), ((u2 0), .inr (9, [.int 0, .int 0, .ref (u2 1), .ref (u2 2), .ref (u2 3), .ref (u2 4), .ref (u2 5), .ref (u2 6)])), ((u2 1), .inl (cI, (600, .inl (fun _ => 0)))), ((u2 2), .inl (cI, (16, .inl (fun _ => 0)))), ((u2 3), .inl (cI, (16, .inl (fun _ => 0)))), ((u2 4), .inl (cI, (16, .inl (fun _ => 0)))), ((u2 5), .inl (cI, (16, .inl (fun _ => 0)))), ((u2 6), .inl (cI, (32, .inl (fun _ => 0)))), (q3, .inl (cI, (21, .inl (fun _ => 0))))] := hD
  refine W.widen (k := 8) (n := 725) (by omega) (by omega) ?_
  refine va_putF (D := D) (ci := 1) (v := .ref q3) (ty := (.array .int)) (C := RX1) (T := TX1) (N := 5) hx hb hts iX1 tyX1 tyX1_ok nmX1 hown hK hP hD hS 0 rfl rfl 2 (by decide) (hts _ wm_t227) (fun _ h9 => h9) rfl hin rfl (by decide +kernel) rfl rfl (Nat.le_of_ble_eq_true rfl) dX1_init_20 (fun H locs hP hD hS => ?_)
  have hP : va_P D vwCl [(h0, .inr (1, [.ref (u2 0), .int 0, .ref q3, .null, .null])), ((u2 0), .inr (9, [.int 0, .int 0, .ref (u2 1), .ref (u2 2), .ref (u2 3), .ref (u2 4), .ref (u2 5), .ref (u2 6)])), ((u2 1), .inl (cI, (600, .inl (fun _ => 0)))), ((u2 2), .inl (cI, (16, .inl (fun _ => 0)))), ((u2 3), .inl (cI, (16, .inl (fun _ => 0)))), ((u2 4), .inl (cI, (16, .inl (fun _ => 0)))), ((u2 5), .inl (cI, (16, .inl (fun _ => 0)))), ((u2 6), .inl (cI, (32, .inl (fun _ => 0)))), (q3, .inl (cI, (21, .inl (fun _ => 0))))] H := hP
  have hD : va_D A [(h0, .inr (1, [.ref (u2 0), .int 0, .ref q3, .null, .null])), ((u2 0), .inr (9, [.int 0, .int 0, .ref (u2 1), .ref (u2 2), .ref (u2 3), .ref (u2 4), .ref (u2 5), .ref (u2 6)])), ((u2 1), .inl (cI, (600, .inl (fun _ => 0)))), ((u2 2), .inl (cI, (16, .inl (fun _ => 0)))), ((u2 3), .inl (cI, (16, .inl (fun _ => 0)))), ((u2 4), .inl (cI, (16, .inl (fun _ => 0)))), ((u2 5), .inl (cI, (16, .inl (fun _ => 0)))), ((u2 6), .inl (cI, (32, .inl (fun _ => 0)))), (q3, .inl (cI, (21, .inl (fun _ => 0))))] := hD
  refine lv_aload_n hx hb dX1_init_23 rfl (lv_at hl 0 rfl) ?_
  refine lv_bipush (v := 21) hx hb dX1_init_24 (by decide) ?_
  refine k_newI (N := 21) C wm_t42 hP hD hS hA (by decide) (by decide) (by decide) (by decide) (by decide) dX1_init_26 (fun q4 H hP hD hS => ?_)
  have hP : va_P D vwCl [(h0, .inr (1, [.ref (u2 0), .int 0, .ref q3, .null, .null])), ((u2 0), .inr (9, [.int 0, .int 0, .ref (u2 1), .ref (u2 2), .ref (u2 3), .ref (u2 4), .ref (u2 5), .ref (u2 6)])), ((u2 1), .inl (cI, (600, .inl (fun _ => 0)))), ((u2 2), .inl (cI, (16, .inl (fun _ => 0)))), ((u2 3), .inl (cI, (16, .inl (fun _ => 0)))), ((u2 4), .inl (cI, (16, .inl (fun _ => 0)))), ((u2 5), .inl (cI, (16, .inl (fun _ => 0)))), ((u2 6), .inl (cI, (32, .inl (fun _ => 0)))), (q3, .inl (cI, (21, .inl (fun _ => 0)))), (q4, .inl (cI, (21, .inl (fun _ => 0))))] H := hP
  have hD : va_D A [(h0, .inr (1, [.ref (u2 0), .int 0, .ref q3, .null, .null])), ((u2 0), .inr (9, [.int 0, .int 0, .ref (u2 1), .ref (u2 2), .ref (u2 3), .ref (u2 4), .ref (u2 5), .ref (u2 6)])), ((u2 1), .inl (cI, (600, .inl (fun _ => 0)))), ((u2 2), .inl (cI, (16, .inl (fun _ => 0)))), ((u2 3), .inl (cI, (16, .inl (fun _ => 0)))), ((u2 4), .inl (cI, (16, .inl (fun _ => 0)))), ((u2 5), .inl (cI, (16, .inl (fun _ => 0)))), ((u2 6), .inl (cI, (32, .inl (fun _ => 0)))), (q3, .inl (cI, (21, .inl (fun _ => 0)))), (q4, .inl (cI, (21, .inl (fun _ => 0))))] := hD
  refine W.widen (k := 9) (n := 746) (by omega) (by omega) ?_
  refine va_putF (D := D) (ci := 1) (v := .ref q4) (ty := (.array .int)) (C := RX1) (T := TX1) (N := 5) hx hb hts iX1 tyX1 tyX1_ok nmX1 hown hK hP hD hS 0 rfl rfl 3 (by decide) (hts _ wm_t228) (fun _ h9 => h9) rfl hin rfl (by decide +kernel) rfl rfl (Nat.le_of_ble_eq_true rfl) dX1_init_28 (fun H locs hP hD hS => ?_)
  have hP : va_P D vwCl [(h0, .inr (1, [.ref (u2 0), .int 0, .ref q3, .ref q4, .null])), ((u2 0), .inr (9, [.int 0, .int 0, .ref (u2 1), .ref (u2 2), .ref (u2 3), .ref (u2 4), .ref (u2 5), .ref (u2 6)])), ((u2 1), .inl (cI, (600, .inl (fun _ => 0)))), ((u2 2), .inl (cI, (16, .inl (fun _ => 0)))), ((u2 3), .inl (cI, (16, .inl (fun _ => 0)))), ((u2 4), .inl (cI, (16, .inl (fun _ => 0)))), ((u2 5), .inl (cI, (16, .inl (fun _ => 0)))), ((u2 6), .inl (cI, (32, .inl (fun _ => 0)))), (q3, .inl (cI, (21, .inl (fun _ => 0)))), (q4, .inl (cI, (21, .inl (fun _ => 0))))] H := hP
  have hD : va_D A [(h0, .inr (1, [.ref (u2 0), .int 0, .ref q3, .ref q4, .null])), ((u2 0), .inr (9, [.int 0, .int 0, .ref (u2 1), .ref (u2 2), .ref (u2 3), .ref (u2 4), .ref (u2 5), .ref (u2 6)])), ((u2 1), .inl (cI, (600, .inl (fun _ => 0)))), ((u2 2), .inl (cI, (16, .inl (fun _ => 0)))), ((u2 3), .inl (cI, (16, .inl (fun _ => 0)))), ((u2 4), .inl (cI, (16, .inl (fun _ => 0)))), ((u2 5), .inl (cI, (16, .inl (fun _ => 0)))), ((u2 6), .inl (cI, (32, .inl (fun _ => 0)))), (q3, .inl (cI, (21, .inl (fun _ => 0)))), (q4, .inl (cI, (21, .inl (fun _ => 0))))] := hD
  refine lv_aload_n hx hb dX1_init_31 rfl (lv_at hl 0 rfl) ?_
  refine lv_bipush (v := 8) hx hb dX1_init_32 (by decide) ?_
  refine k_newI (N := 8) C wm_t42 hP hD hS hA (by decide) (by decide) (by decide) (by decide) (by decide) dX1_init_34 (fun q5 H hP hD hS => ?_)
  have hP : va_P D vwCl [(h0, .inr (1, [.ref (u2 0), .int 0, .ref q3, .ref q4, .null])), ((u2 0), .inr (9, [.int 0, .int 0, .ref (u2 1), .ref (u2 2), .ref (u2 3), .ref (u2 4), .ref (u2 5), .ref (u2 6)])), ((u2 1), .inl (cI, (600, .inl (fun _ => 0)))), ((u2 2), .inl (cI, (16, .inl (fun _ => 0)))), ((u2 3), .inl (cI, (16, .inl (fun _ => 0)))), ((u2 4), .inl (cI, (16, .inl (fun _ => 0)))), ((u2 5), .inl (cI, (16, .inl (fun _ => 0)))), ((u2 6), .inl (cI, (32, .inl (fun _ => 0)))), (q3, .inl (cI, (21, .inl (fun _ => 0)))), (q4, .inl (cI, (21, .inl (fun _ => 0)))), (q5, .inl (cI, (8, .inl (fun _ => 0))))] H := hP
  have hD : va_D A [(h0, .inr (1, [.ref (u2 0), .int 0, .ref q3, .ref q4, .null])), ((u2 0), .inr (9, [.int 0, .int 0, .ref (u2 1), .ref (u2 2), .ref (u2 3), .ref (u2 4), .ref (u2 5), .ref (u2 6)])), ((u2 1), .inl (cI, (600, .inl (fun _ => 0)))), ((u2 2), .inl (cI, (16, .inl (fun _ => 0)))), ((u2 3), .inl (cI, (16, .inl (fun _ => 0)))), ((u2 4), .inl (cI, (16, .inl (fun _ => 0)))), ((u2 5), .inl (cI, (16, .inl (fun _ => 0)))), ((u2 6), .inl (cI, (32, .inl (fun _ => 0)))), (q3, .inl (cI, (21, .inl (fun _ => 0)))), (q4, .inl (cI, (21, .inl (fun _ => 0)))), (q5, .inl (cI, (8, .inl (fun _ => 0))))] := hD
  refine W.widen (k := 10) (n := 754) (by omega) (by omega) ?_
  refine va_putF (D := D) (ci := 1) (v := .ref q5) (ty := (.array .int)) (C := RX1) (T := TX1) (N := 5) hx hb hts iX1 tyX1 tyX1_ok nmX1 hown hK hP hD hS 0 rfl rfl 4 (by decide) (hts _ wm_t229) (fun _ h9 => h9) rfl hin rfl (by decide +kernel) rfl rfl (Nat.le_of_ble_eq_true rfl) dX1_init_36 (fun H locs hP hD hS => ?_)
  have hP : va_P D vwCl [(h0, .inr (1, [.ref (u2 0), .int 0, .ref q3, .ref q4, .ref q5])), ((u2 0), .inr (9, [.int 0, .int 0, .ref (u2 1), .ref (u2 2), .ref (u2 3), .ref (u2 4), .ref (u2 5), .ref (u2 6)])), ((u2 1), .inl (cI, (600, .inl (fun _ => 0)))), ((u2 2), .inl (cI, (16, .inl (fun _ => 0)))), ((u2 3), .inl (cI, (16, .inl (fun _ => 0)))), ((u2 4), .inl (cI, (16, .inl (fun _ => 0)))), ((u2 5), .inl (cI, (16, .inl (fun _ => 0)))), ((u2 6), .inl (cI, (32, .inl (fun _ => 0)))), (q3, .inl (cI, (21, .inl (fun _ => 0)))), (q4, .inl (cI, (21, .inl (fun _ => 0)))), (q5, .inl (cI, (8, .inl (fun _ => 0))))] H := hP
  have hD : va_D A [(h0, .inr (1, [.ref (u2 0), .int 0, .ref q3, .ref q4, .ref q5])), ((u2 0), .inr (9, [.int 0, .int 0, .ref (u2 1), .ref (u2 2), .ref (u2 3), .ref (u2 4), .ref (u2 5), .ref (u2 6)])), ((u2 1), .inl (cI, (600, .inl (fun _ => 0)))), ((u2 2), .inl (cI, (16, .inl (fun _ => 0)))), ((u2 3), .inl (cI, (16, .inl (fun _ => 0)))), ((u2 4), .inl (cI, (16, .inl (fun _ => 0)))), ((u2 5), .inl (cI, (16, .inl (fun _ => 0)))), ((u2 6), .inl (cI, (32, .inl (fun _ => 0)))), (q3, .inl (cI, (21, .inl (fun _ => 0)))), (q4, .inl (cI, (21, .inl (fun _ => 0)))), (q5, .inl (cI, (8, .inl (fun _ => 0))))] := hD
  refine W.widen (k := 10) (n := 754) (by omega) (by omega) ?_
  exact W.vret hx hb hr (fun t ht hW => ⟨⟨(uof [h0, (u2 0), (u2 1), (u2 2), (u2 3), (u2 4), (u2 5), (u2 6), q3, q4, q5]), rfl, rfl, by show va_P _ _ _ t.heap; rw [ht]; exact hP, hD⟩, hS.F ht⟩) hS.2.2 dX1_init_39 hlocks

def wl_X0_init (cI cZ : ClassId) (u : Nat → Nat) : va_W := [((u 0), .inr (0, [.int 3, .int 0, .ref (u 1), .ref (u 2), .ref (u 3)])), ((u 1), .inl (cI, (60, .inl (fun _ => 0)))), ((u 2), .inl (cI, (60, .inl (fun _ => 0)))), ((u 3), .inl (cI, (60, .inl (fun _ => 0))))]
set_option maxHeartbeats 8000000 in
set_option maxRecDepth 20000 in
theorem k_X0_init {l : Launch} {D : va_G} {cI cZ : ClassId} (h0 sz : Nat) : Met l yX0_init (Cond.code yX0_init cX0_init 1 none :: gT) { frames := 1, cells := 3, slots := 180, locals := 60 } (va_Pc [.ref h0] (preK D cI cZ [(h0, .inr (0, [.int 0, .int 0, .null, .null, .null]))] sz)) (va_Qv (fun u : Nat → Nat => u 0 = h0) (postK D (wl_X0_init cI cZ) (va_A [(h0, .inr (0, [.int 0, .int 0, .null, .null, .null]))] sz)) (va_A [(h0, .inr (0, [.int 0, .int 0, .null, .null, .null]))] sz)) 3 180 (va_A [(h0, .inr (0, [.int 0, .int 0, .null, .null, .null]))] sz) := by
  refine k_entry (y := yX0_init) (cc := cX0_init) (nL := 1) (fun sz => va_Qv (fun u : Nat → Nat => u 0 = h0) (postK D (wl_X0_init cI cZ) (va_A [(h0, .inr (0, [.int 0, .int 0, .null, .null, .null]))] sz)) (va_A [(h0, .inr (0, [.int 0, .int 0, .null, .null, .null]))] sz)) [(h0, .inr (0, [.int 0, .int 0, .null, .null, .null]))] (by decide) rfl [.ref h0] (Nat.le_of_ble_eq_true rfl) (fun p e s m args below meth c ls C hP hD hl => ?_)
  have hl : lv_has ls 1 [(0, .ref h0)] := hl
  obtain ⟨hx, hb, hr, hml, hown, hts, hlocks, hK, hN, hin⟩ := id C
  show W p l e _ s m args below meth c s.heap [] 0 0 (MQ below (va_Qv (fun u : Nat → Nat => u 0 = h0) (postK D (wl_X0_init cI cZ) (va_A [(h0, .inr (0, [.int 0, .int 0, .null, .null, .null]))] s.heap.size)) (va_A [(h0, .inr (0, [.int 0, .int 0, .null, .null, .null]))] s.heap.size)) args s 3 180 (va_A [(h0, .inr (0, [.int 0, .int 0, .null, .null, .null]))] s.heap.size)) _
  generalize hAe : va_A [(h0, .inr (0, [.int 0, .int 0, .null, .null, .null]))] s.heap.size = A at hD ⊢
  have hA : ∀ q : Nat, s.heap.size ≤ q → A q := fun q h => by rw [← hAe]; exact Or.inr h
  have hS : va_S A s.heap s.heap [] := va_S.rf
  refine lv_aload_n hx hb dX0_init_0 rfl (lv_at hl 0 rfl) ?_
  refine W.objInit hx hb hown (hts _ wm_t246) (hts _ wm_t27) (hts _ wm_t28) rfl (by rw [hml]; exact hl.1) rfl dX0_init_1 (Nat.le_of_ble_eq_true rfl) (Nat.le_of_ble_eq_true rfl) ?_
  refine W.eq (g2 := F0 m 4 ls []) rfl ?_
  refine lv_aload_n hx hb dX0_init_4 rfl (lv_at hl 0 rfl) ?_
  refine lv_iconst (v := 3) hx hb dX0_init_5 (by decide) ?_
  refine va_put (D := D) (ci := 0) (v := .int 3) (ty := .int) (C := RX0) (T := TX0) (N := 5) hx hb hts iX0 tyX0 tyX0_ok nmX0 hown hK hP hD hS 0 rfl rfl 0 (by decide) (hts _ wm_t247) (fun _ h9 => h9) rfl (by decide +kernel) rfl rfl (Nat.le_of_ble_eq_true rfl) dX0_init_6 (fun H locs hP hD hS => ?_)
  have hP : va_P D vwCl [(h0, .inr (0, [.int 3, .int 0, .null, .null, .null]))] H := hP
  have hD : va_D A [(h0, .inr (0, [.int 3, .int 0, .null, .null, .null]))] := hD
  refine lv_aload_n hx hb dX0_init_9 rfl (lv_at hl 0 rfl) ?_
  refine lv_bipush (v := 60) hx hb dX0_init_10 (by decide) ?_
  refine k_newI (N := 60) C wm_t42 hP hD hS hA (by decide) (by decide) (by decide) (by decide) (by decide) dX0_init_12 (fun q1 H hP hD hS => ?_)
  have hP : va_P D vwCl [(h0, .inr (0, [.int 3, .int 0, .null, .null, .null])), (q1, .inl (cI, (60, .inl (fun _ => 0))))] H := hP
  have hD : va_D A [(h0, .inr (0, [.int 3, .int 0, .null, .null, .null])), (q1, .inl (cI, (60, .inl (fun _ => 0))))] := hD
  refine W.widen (k := 1) (n := 60) (by omega) (by omega) ?_
  refine va_putF (D := D) (ci := 0) (v := .ref q1) (ty := (.array .int)) (C := RX0) (T := TX0) (N := 5) hx hb hts iX0 tyX0 tyX0_ok nmX0 hown hK hP hD hS 0 rfl rfl 2 (by decide) (hts _ wm_t250) (fun _ h9 => h9) rfl hin rfl (by decide +kernel) rfl rfl (Nat.le_of_ble_eq_true rfl) dX0_init_14 (fun H locs hP hD hS => ?_)
  have hP : va_P D vwCl [(h0, .inr (0, [.int 3, .int 0, .ref q1, .null, .null])), (q1, .inl (cI, (60, .inl (fun _ => 0))))] H := hP
  have hD : va_D A [(h0, .inr (0, [.int 3, .int 0, .ref q1, .null, .null])), (q1, .inl (cI, (60, .inl (fun _ => 0))))] := hD
  refine lv_aload_n hx hb dX0_init_17 rfl (lv_at hl 0 rfl) ?_
  refine lv_bipush (v := 60) hx hb dX0_init_18 (by decide) ?_
  refine k_newI (N := 60) C wm_t42 hP hD hS hA (by decide) (by decide) (by decide) (by decide) (by decide) dX0_init_20 (fun q2 H hP hD hS => ?_)
  have hP : va_P D vwCl [(h0, .inr (0, [.int 3, .int 0, .ref q1, .null, .null])), (q1, .inl (cI, (60, .inl (fun _ => 0)))), (q2, .inl (cI, (60, .inl (fun _ => 0))))] H := hP
  have hD : va_D A [(h0, .inr (0, [.int 3, .int 0, .ref q1, .null, .null])), (q1, .inl (cI, (60, .inl (fun _ => 0)))), (q2, .inl (cI, (60, .inl (fun _ => 0))))] := hD
  refine W.widen (k := 2) (n := 120) (by omega) (by omega) ?_
  refine va_putF (D := D) (ci := 0) (v := .ref q2) (ty := (.array .int)) (C := RX0) (T := TX0) (N := 5) hx hb hts iX0 tyX0 tyX0_ok nmX0 hown hK hP hD hS 0 rfl rfl 3 (by decide) (hts _ wm_t251) (fun _ h9 => h9) rfl hin rfl (by decide +kernel) rfl rfl (Nat.le_of_ble_eq_true rfl) dX0_init_22 (fun H locs hP hD hS => ?_)
  have hP : va_P D vwCl [(h0, .inr (0, [.int 3, .int 0, .ref q1, .ref q2, .null])), (q1, .inl (cI, (60, .inl (fun _ => 0)))), (q2, .inl (cI, (60, .inl (fun _ => 0))))] H := hP
  have hD : va_D A [(h0, .inr (0, [.int 3, .int 0, .ref q1, .ref q2, .null])), (q1, .inl (cI, (60, .inl (fun _ => 0)))), (q2, .inl (cI, (60, .inl (fun _ => 0))))] := hD
  refine lv_aload_n hx hb dX0_init_25 rfl (lv_at hl 0 rfl) ?_
  refine lv_bipush (v := 60) hx hb dX0_init_26 (by decide) ?_
  refine k_newI (N := 60) C wm_t42 hP hD hS hA (by decide) (by decide) (by decide) (by decide) (by decide) dX0_init_28 (fun q3 H hP hD hS => ?_)
  have hP : va_P D vwCl [(h0, .inr (0, [.int 3, .int 0, .ref q1, .ref q2, .null])), (q1, .inl (cI, (60, .inl (fun _ => 0)))), (q2, .inl (cI, (60, .inl (fun _ => 0)))), (q3, .inl (cI, (60, .inl (fun _ => 0))))] H := hP
  have hD : va_D A [(h0, .inr (0, [.int 3, .int 0, .ref q1, .ref q2, .null])), (q1, .inl (cI, (60, .inl (fun _ => 0)))), (q2, .inl (cI, (60, .inl (fun _ => 0)))), (q3, .inl (cI, (60, .inl (fun _ => 0))))] := hD
  refine W.widen (k := 3) (n := 180) (by omega) (by omega) ?_
  refine va_putF (D := D) (ci := 0) (v := .ref q3) (ty := (.array .int)) (C := RX0) (T := TX0) (N := 5) hx hb hts iX0 tyX0 tyX0_ok nmX0 hown hK hP hD hS 0 rfl rfl 4 (by decide) (hts _ wm_t252) (fun _ h9 => h9) rfl hin rfl (by decide +kernel) rfl rfl (Nat.le_of_ble_eq_true rfl) dX0_init_30 (fun H locs hP hD hS => ?_)
  have hP : va_P D vwCl [(h0, .inr (0, [.int 3, .int 0, .ref q1, .ref q2, .ref q3])), (q1, .inl (cI, (60, .inl (fun _ => 0)))), (q2, .inl (cI, (60, .inl (fun _ => 0)))), (q3, .inl (cI, (60, .inl (fun _ => 0))))] H := hP
  have hD : va_D A [(h0, .inr (0, [.int 3, .int 0, .ref q1, .ref q2, .ref q3])), (q1, .inl (cI, (60, .inl (fun _ => 0)))), (q2, .inl (cI, (60, .inl (fun _ => 0)))), (q3, .inl (cI, (60, .inl (fun _ => 0))))] := hD
  refine W.widen (k := 3) (n := 180) (by omega) (by omega) ?_
  exact W.vret hx hb hr (fun t ht hW => ⟨⟨(uof [h0, q1, q2, q3]), rfl, rfl, by show va_P _ _ _ t.heap; rw [ht]; exact hP, hD⟩, hS.F ht⟩) hS.2.2 dX0_init_33 hlocks

def ar_X3_init_0 : Nat → Int32 := (upd (upd (upd (upd (upd (upd (upd (upd (fun _ => 0) 0 (-1)) 1 (-1)) 2 (-1)) 3 (-1)) 4 (-1)) 5 (-1)) 6 (-1)) 7 (-1))
def wl_X3_init (cI cZ : ClassId) (u : Nat → Nat) : va_W := [((u 0), .inr (3, [.ref (u 1), .ref (u 2)])), ((u 1), .inl (cI, (8, .inl ar_X3_init_0))), ((u 2), .inl (cZ, (256, .inl (fun _ => 0))))]
set_option maxHeartbeats 8000000 in
set_option maxRecDepth 20000 in
theorem k_X3_init {l : Launch} {D : va_G} {cI cZ : ClassId} (h0 sz : Nat) : Met l yX3_init (Cond.code yX3_init cX3_init 1 none :: gT) { frames := 1, cells := 2, slots := 264, locals := 60 } (va_Pc [.ref h0] (preK D cI cZ [(h0, .inr (3, [.null, .null]))] sz)) (va_Qv (fun u : Nat → Nat => u 0 = h0) (postK D (wl_X3_init cI cZ) (va_A [(h0, .inr (3, [.null, .null]))] sz)) (va_A [(h0, .inr (3, [.null, .null]))] sz)) 2 264 (va_A [(h0, .inr (3, [.null, .null]))] sz) := by
  refine k_entry (y := yX3_init) (cc := cX3_init) (nL := 1) (fun sz => va_Qv (fun u : Nat → Nat => u 0 = h0) (postK D (wl_X3_init cI cZ) (va_A [(h0, .inr (3, [.null, .null]))] sz)) (va_A [(h0, .inr (3, [.null, .null]))] sz)) [(h0, .inr (3, [.null, .null]))] (by decide) rfl [.ref h0] (Nat.le_of_ble_eq_true rfl) (fun p e s m args below meth c ls C hP hD hl => ?_)
  have hl : lv_has ls 1 [(0, .ref h0)] := hl
  obtain ⟨hx, hb, hr, hml, hown, hts, hlocks, hK, hN, hin⟩ := id C
  show W p l e _ s m args below meth c s.heap [] 0 0 (MQ below (va_Qv (fun u : Nat → Nat => u 0 = h0) (postK D (wl_X3_init cI cZ) (va_A [(h0, .inr (3, [.null, .null]))] s.heap.size)) (va_A [(h0, .inr (3, [.null, .null]))] s.heap.size)) args s 2 264 (va_A [(h0, .inr (3, [.null, .null]))] s.heap.size)) _
  generalize hAe : va_A [(h0, .inr (3, [.null, .null]))] s.heap.size = A at hD ⊢
  have hA : ∀ q : Nat, s.heap.size ≤ q → A q := fun q h => by rw [← hAe]; exact Or.inr h
  have hS : va_S A s.heap s.heap [] := va_S.rf
  refine lv_aload_n hx hb dX3_init_0 rfl (lv_at hl 0 rfl) ?_
  refine W.objInit hx hb hown (hts _ wm_t269) (hts _ wm_t27) (hts _ wm_t28) rfl (by rw [hml]; exact hl.1) rfl dX3_init_1 (Nat.le_of_ble_eq_true rfl) (Nat.le_of_ble_eq_true rfl) ?_
  refine W.eq (g2 := F0 m 4 ls []) rfl ?_
  refine lv_aload_n hx hb dX3_init_4 rfl (lv_at hl 0 rfl) ?_
  refine lv_bipush (v := 8) hx hb dX3_init_5 (by decide) ?_
  refine k_newI (N := 8) C wm_t42 hP hD hS hA (by decide) (by decide) (by decide) (by decide) (by decide) dX3_init_7 (fun q1 H hP hD hS => ?_)
  have hP : va_P D vwCl [(h0, .inr (3, [.null, .null])), (q1, .inl (cI, (8, .inl (fun _ => 0))))] H := hP
  have hD : va_D A [(h0, .inr (3, [.null, .null])), (q1, .inl (cI, (8, .inl (fun _ => 0))))] := hD
  refine W.widen (k := 1) (n := 8) (by omega) (by omega) ?_
  refine lv_dup hx hb dX3_init_9 rfl ?_
  refine lv_iconst (v := 0) hx hb dX3_init_10 (by decide) ?_
  refine lv_iconst (v := (-1)) hx hb dX3_init_11 (by decide) ?_
  have hP : va_P D vwCl ([(h0, .inr (3, [.null, .null]))] ++ [(q1, .inl (cI, (8, .inl (fun _ => 0))))]) H := hP
  have hD : va_D A ([(h0, .inr (3, [.null, .null]))] ++ [(q1, .inl (cI, (8, .inl (fun _ => 0))))]) := hD
  generalize hWR0 : ([(h0, .inr (3, [.null, .null]))] : va_W) = wr at hP hD
  obtain ⟨g0_0, eg0_0⟩ : ∃ g : Nat → Int32, g = (fun _ => 0) := ⟨_, rfl⟩
  rw [← eg0_0] at hP hD
  refine k_ast (j := 0) C hP hD hS rfl (by decide) (by decide) dX3_init_12 (fun g0_1 H locs eg0_1 hP hD hS => ?_)
  refine lv_dup hx hb dX3_init_13 rfl ?_
  refine lv_iconst (v := 1) hx hb dX3_init_14 (by decide) ?_
  refine lv_iconst (v := (-1)) hx hb dX3_init_15 (by decide) ?_
  refine k_ast (j := 1) C hP hD hS rfl (by decide) (by decide) dX3_init_16 (fun g0_2 H locs eg0_2 hP hD hS => ?_)
  refine lv_dup hx hb dX3_init_17 rfl ?_
  refine lv_iconst (v := 2) hx hb dX3_init_18 (by decide) ?_
  refine lv_iconst (v := (-1)) hx hb dX3_init_19 (by decide) ?_
  refine k_ast (j := 2) C hP hD hS rfl (by decide) (by decide) dX3_init_20 (fun g0_3 H locs eg0_3 hP hD hS => ?_)
  refine lv_dup hx hb dX3_init_21 rfl ?_
  refine lv_iconst (v := 3) hx hb dX3_init_22 (by decide) ?_
  refine lv_iconst (v := (-1)) hx hb dX3_init_23 (by decide) ?_
  refine k_ast (j := 3) C hP hD hS rfl (by decide) (by decide) dX3_init_24 (fun g0_4 H locs eg0_4 hP hD hS => ?_)
  refine lv_dup hx hb dX3_init_25 rfl ?_
  refine lv_iconst (v := 4) hx hb dX3_init_26 (by decide) ?_
  refine lv_iconst (v := (-1)) hx hb dX3_init_27 (by decide) ?_
  refine k_ast (j := 4) C hP hD hS rfl (by decide) (by decide) dX3_init_28 (fun g0_5 H locs eg0_5 hP hD hS => ?_)
  refine lv_dup hx hb dX3_init_29 rfl ?_
  refine lv_iconst (v := 5) hx hb dX3_init_30 (by decide) ?_
  refine lv_iconst (v := (-1)) hx hb dX3_init_31 (by decide) ?_
  refine k_ast (j := 5) C hP hD hS rfl (by decide) (by decide) dX3_init_32 (fun g0_6 H locs eg0_6 hP hD hS => ?_)
  refine lv_dup hx hb dX3_init_33 rfl ?_
  refine lv_bipush (v := 6) hx hb dX3_init_34 (by decide) ?_
  refine lv_iconst (v := (-1)) hx hb dX3_init_36 (by decide) ?_
  refine k_ast (j := 6) C hP hD hS rfl (by decide) (by decide) dX3_init_37 (fun g0_7 H locs eg0_7 hP hD hS => ?_)
  refine lv_dup hx hb dX3_init_38 rfl ?_
  refine lv_bipush (v := 7) hx hb dX3_init_39 (by decide) ?_
  refine lv_iconst (v := (-1)) hx hb dX3_init_41 (by decide) ?_
  refine k_ast (j := 7) C hP hD hS rfl (by decide) (by decide) dX3_init_42 (fun g0_8 H locs eg0_8 hP hD hS => ?_)
  have eF : g0_8 = ar_X3_init_0 := by rw [eg0_8, eg0_7, eg0_6, eg0_5, eg0_4, eg0_3, eg0_2, eg0_1, eg0_0]; rfl
  rw [eF, ← hWR0] at hP hD
  have hP : va_P D vwCl [(h0, .inr (3, [.null, .null])), (q1, .inl (cI, (8, .inl ar_X3_init_0)))] H := hP
  have hD : va_D A [(h0, .inr (3, [.null, .null])), (q1, .inl (cI, (8, .inl ar_X3_init_0)))] := hD
  refine va_putF (D := D) (ci := 3) (v := .ref q1) (ty := (.array .int)) (C := RX3) (T := TX3) (N := 2) hx hb hts iX3 tyX3 tyX3_ok nmX3 hown hK hP hD hS 0 rfl rfl 0 (by decide) (hts _ wm_t270) (fun _ h9 => h9) rfl hin rfl (by decide +kernel) rfl rfl (Nat.le_of_ble_eq_true rfl) dX3_init_43 (fun H locs hP hD hS => ?_)
  have hP : va_P D vwCl [(h0, .inr (3, [.ref q1, .null])), (q1, .inl (cI, (8, .inl ar_X3_init_0)))] H := hP
  have hD : va_D A [(h0, .inr (3, [.ref q1, .null])), (q1, .inl (cI, (8, .inl ar_X3_init_0)))] := hD
  refine lv_aload_n hx hb dX3_init_46 rfl (lv_at hl 0 rfl) ?_
  refine lv_sipush (v := 256) hx hb dX3_init_47 (by decide) ?_
  refine k_newZ (N := 256) C wm_t277 hP hD hS hA (by decide) (by decide) (by decide) (by decide) (by decide) dX3_init_50 (fun q2 H hP hD hS => ?_)
  have hP : va_P D vwCl [(h0, .inr (3, [.ref q1, .null])), (q1, .inl (cI, (8, .inl ar_X3_init_0))), (q2, .inl (cZ, (256, .inl (fun _ => 0))))] H := hP
  have hD : va_D A [(h0, .inr (3, [.ref q1, .null])), (q1, .inl (cI, (8, .inl ar_X3_init_0))), (q2, .inl (cZ, (256, .inl (fun _ => 0))))] := hD
  refine W.widen (k := 2) (n := 264) (by omega) (by omega) ?_
  refine va_putF (D := D) (ci := 3) (v := .ref q2) (ty := (.array .boolean)) (C := RX3) (T := TX3) (N := 2) hx hb hts iX3 tyX3 tyX3_ok nmX3 hown hK hP hD hS 0 rfl rfl 1 (by decide) (hts _ wm_t271) (fun _ h9 => h9) rfl hin rfl (by decide +kernel) rfl rfl (Nat.le_of_ble_eq_true rfl) dX3_init_52 (fun H locs hP hD hS => ?_)
  have hP : va_P D vwCl [(h0, .inr (3, [.ref q1, .ref q2])), (q1, .inl (cI, (8, .inl ar_X3_init_0))), (q2, .inl (cZ, (256, .inl (fun _ => 0))))] H := hP
  have hD : va_D A [(h0, .inr (3, [.ref q1, .ref q2])), (q1, .inl (cI, (8, .inl ar_X3_init_0))), (q2, .inl (cZ, (256, .inl (fun _ => 0))))] := hD
  refine W.widen (k := 2) (n := 264) (by omega) (by omega) ?_
  exact W.vret hx hb hr (fun t ht hW => ⟨⟨(uof [h0, q1, q2]), rfl, rfl, by show va_P _ _ _ t.heap; rw [ht]; exact hP, hD⟩, hS.F ht⟩) hS.2.2 dX3_init_55 hlocks

def wl_X6_init (cI cZ : ClassId) (u : Nat → Nat) : va_W := [((u 0), .inr (6, [.int 0, .ref (u 1), .ref (u 2)])), ((u 1), .inl (cI, (288, .inl (fun _ => 0)))), ((u 2), .inl (cI, (288, .inl (fun _ => 0))))]
set_option maxHeartbeats 8000000 in
set_option maxRecDepth 20000 in
theorem k_X6_init {l : Launch} {D : va_G} {cI cZ : ClassId} (h0 sz : Nat) : Met l yX6_init (Cond.code yX6_init cX6_init 1 none :: gT) { frames := 1, cells := 2, slots := 576, locals := 60 } (va_Pc [.ref h0] (preK D cI cZ [(h0, .inr (6, [.int 0, .null, .null]))] sz)) (va_Qv (fun u : Nat → Nat => u 0 = h0) (postK D (wl_X6_init cI cZ) (va_A [(h0, .inr (6, [.int 0, .null, .null]))] sz)) (va_A [(h0, .inr (6, [.int 0, .null, .null]))] sz)) 2 576 (va_A [(h0, .inr (6, [.int 0, .null, .null]))] sz) := by
  refine k_entry (y := yX6_init) (cc := cX6_init) (nL := 1) (fun sz => va_Qv (fun u : Nat → Nat => u 0 = h0) (postK D (wl_X6_init cI cZ) (va_A [(h0, .inr (6, [.int 0, .null, .null]))] sz)) (va_A [(h0, .inr (6, [.int 0, .null, .null]))] sz)) [(h0, .inr (6, [.int 0, .null, .null]))] (by decide) rfl [.ref h0] (Nat.le_of_ble_eq_true rfl) (fun p e s m args below meth c ls C hP hD hl => ?_)
  have hl : lv_has ls 1 [(0, .ref h0)] := hl
  obtain ⟨hx, hb, hr, hml, hown, hts, hlocks, hK, hN, hin⟩ := id C
  show W p l e _ s m args below meth c s.heap [] 0 0 (MQ below (va_Qv (fun u : Nat → Nat => u 0 = h0) (postK D (wl_X6_init cI cZ) (va_A [(h0, .inr (6, [.int 0, .null, .null]))] s.heap.size)) (va_A [(h0, .inr (6, [.int 0, .null, .null]))] s.heap.size)) args s 2 576 (va_A [(h0, .inr (6, [.int 0, .null, .null]))] s.heap.size)) _
  generalize hAe : va_A [(h0, .inr (6, [.int 0, .null, .null]))] s.heap.size = A at hD ⊢
  have hA : ∀ q : Nat, s.heap.size ≤ q → A q := fun q h => by rw [← hAe]; exact Or.inr h
  have hS : va_S A s.heap s.heap [] := va_S.rf
  refine lv_aload_n hx hb dX6_init_0 rfl (lv_at hl 0 rfl) ?_
  refine W.objInit hx hb hown (hts _ wm_t283) (hts _ wm_t27) (hts _ wm_t28) rfl (by rw [hml]; exact hl.1) rfl dX6_init_1 (Nat.le_of_ble_eq_true rfl) (Nat.le_of_ble_eq_true rfl) ?_
  refine W.eq (g2 := F0 m 4 ls []) rfl ?_
  refine lv_aload_n hx hb dX6_init_4 rfl (lv_at hl 0 rfl) ?_
  refine lv_sipush (v := 288) hx hb dX6_init_5 (by decide) ?_
  refine k_newI (N := 288) C wm_t42 hP hD hS hA (by decide) (by decide) (by decide) (by decide) (by decide) dX6_init_8 (fun q1 H hP hD hS => ?_)
  have hP : va_P D vwCl [(h0, .inr (6, [.int 0, .null, .null])), (q1, .inl (cI, (288, .inl (fun _ => 0))))] H := hP
  have hD : va_D A [(h0, .inr (6, [.int 0, .null, .null])), (q1, .inl (cI, (288, .inl (fun _ => 0))))] := hD
  refine W.widen (k := 1) (n := 288) (by omega) (by omega) ?_
  refine va_putF (D := D) (ci := 6) (v := .ref q1) (ty := (.array .int)) (C := RX6) (T := TX6) (N := 3) hx hb hts iX6 tyX6 tyX6_ok nmX6 hown hK hP hD hS 0 rfl rfl 1 (by decide) (hts _ wm_t285) (fun _ h9 => h9) rfl hin rfl (by decide +kernel) rfl rfl (Nat.le_of_ble_eq_true rfl) dX6_init_10 (fun H locs hP hD hS => ?_)
  have hP : va_P D vwCl [(h0, .inr (6, [.int 0, .ref q1, .null])), (q1, .inl (cI, (288, .inl (fun _ => 0))))] H := hP
  have hD : va_D A [(h0, .inr (6, [.int 0, .ref q1, .null])), (q1, .inl (cI, (288, .inl (fun _ => 0))))] := hD
  refine lv_aload_n hx hb dX6_init_13 rfl (lv_at hl 0 rfl) ?_
  refine lv_sipush (v := 288) hx hb dX6_init_14 (by decide) ?_
  refine k_newI (N := 288) C wm_t42 hP hD hS hA (by decide) (by decide) (by decide) (by decide) (by decide) dX6_init_17 (fun q2 H hP hD hS => ?_)
  have hP : va_P D vwCl [(h0, .inr (6, [.int 0, .ref q1, .null])), (q1, .inl (cI, (288, .inl (fun _ => 0)))), (q2, .inl (cI, (288, .inl (fun _ => 0))))] H := hP
  have hD : va_D A [(h0, .inr (6, [.int 0, .ref q1, .null])), (q1, .inl (cI, (288, .inl (fun _ => 0)))), (q2, .inl (cI, (288, .inl (fun _ => 0))))] := hD
  refine W.widen (k := 2) (n := 576) (by omega) (by omega) ?_
  refine va_putF (D := D) (ci := 6) (v := .ref q2) (ty := (.array .int)) (C := RX6) (T := TX6) (N := 3) hx hb hts iX6 tyX6 tyX6_ok nmX6 hown hK hP hD hS 0 rfl rfl 2 (by decide) (hts _ wm_t286) (fun _ h9 => h9) rfl hin rfl (by decide +kernel) rfl rfl (Nat.le_of_ble_eq_true rfl) dX6_init_19 (fun H locs hP hD hS => ?_)
  have hP : va_P D vwCl [(h0, .inr (6, [.int 0, .ref q1, .ref q2])), (q1, .inl (cI, (288, .inl (fun _ => 0)))), (q2, .inl (cI, (288, .inl (fun _ => 0))))] H := hP
  have hD : va_D A [(h0, .inr (6, [.int 0, .ref q1, .ref q2])), (q1, .inl (cI, (288, .inl (fun _ => 0)))), (q2, .inl (cI, (288, .inl (fun _ => 0))))] := hD
  refine W.widen (k := 2) (n := 576) (by omega) (by omega) ?_
  exact W.vret hx hb hr (fun t ht hW => ⟨⟨(uof [h0, q1, q2]), rfl, rfl, by show va_P _ _ _ t.heap; rw [ht]; exact hP, hD⟩, hS.F ht⟩) hS.2.2 dX6_init_22 hlocks
