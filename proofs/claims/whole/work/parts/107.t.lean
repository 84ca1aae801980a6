def fX11_shipWater_317 (rec260 : St → Int32 → Int32 → Int32 → Option St) (σ : St) (x2 : Int32) (x3 : Int32) (x4 : Int32) (y0 : Int32) (y1 : Int32) : Option St :=
(wrK 288 σ 8 y1 (vp_nar .boolean y0) fun σ1 =>
rec260 σ1 x2 x3 (x4 + 1))
set_option maxHeartbeats 4000000 in
theorem b_fX11_shipWater_317 {E : Ev} {l : Launch} {p : Program} {e : Env} {s : State} {m : MethodId} {args : Array Value} {below : List Frame} {meth : Method} {c : Code} (C : CX false E RX11 cX11_shipWater 6 none p s m args meth c) {sr : St} (rec260 : St → Int32 → Int32 → Int32 → Option St) (hr260 : ∀ (σ : St) (x2 : Int32) (x3 : Int32) (x4 : Int32), rec260 σ x2 x3 x4 = some sr → GW false l (rmD 4) E 6 p e s m args below meth c (MQ below (QV false E sr s.heap.size) args s 0 0 (aW false E s.heap.size)) σ 260 [(0, .ref (ea E 0)), (2, .int x2), (3, .int x3), (4, .int x4)] []) : ∀ (σ : St) (x2 : Int32) (x3 : Int32) (x4 : Int32) (y0 : Int32) (y1 : Int32), fX11_shipWater_317 rec260 σ x2 x3 x4 y0 y1 = some sr → GW false l (rmD 4) E 6 p e s m args below meth c (MQ below (QV false E sr s.heap.size) args s 0 0 (aW false E s.heap.size)) σ 317 [(0, .ref (ea E 0)), (2, .int x2), (3, .int x3), (4, .int x4)] [.int y0, .int y1, .ref (ea E 8)] := by
  intro σ x2 x3 x4 y0 y1 hf H locs ls hP hS hl
  obtain ⟨hx, hb, hr, hml, hown, hts, hlocks, hK, hX, hj⟩ := id C
  unfold fX11_shipWater_317 at hf
  obtain ⟨h2, σ1, eσ1, hf⟩ := wrK_e hf
  refine r_zast C hP hS aM_8 h2 dX11_shipWater_317 (fun H locs hP hS => ?_)
  rw [← eσ1] at hP
  refine lv_iinc (v := (x4 + 1)) (lv' := [(4, .int (x4 + 1)), (0, .ref (ea E 0)), (2, .int x2), (3, .int x3)]) hx hb dX11_shipWater_318 hl (k := 3) rfl rfl (by decide) rfl (fun ls hl => ?_)
  refine lv_goto (tgt := 260) hx hb dX11_shipWater_321 (by decide) ?_
  exact hr260 σ1 x2 x3 (x4 + 1) hf H locs ls hP hS (lv_sub hl [1, 2, 3, 0] rfl)
def fX11_shipWater_260B (rec260 : St → Int32 → Int32 → Int32 → Option St) (σ : St) (x2 : Int32) (x3 : Int32) (x4 : Int32) : Option St :=
(if (x3 + 144) ≤ x4 then
some σ
else
(wrK 288 σ 8 x4 (vp_nar .boolean 0) fun σ2 =>
(rdK 288 (σ2 5) x4 fun v4 =>
(if v4 = 0 then
rec260 σ2 x2 x3 (x4 + 1)
else
(cv (fX11_takesShip σ2 x4 x2) fun σ8 =>
(cb (fX11_lawOf σ8 2) fun r9 σ11 =>
(if r9 ≤ 0 then
fX11_shipWater_317 rec260 σ11 x2 x3 x4 0 x4
else
fX11_shipWater_317 rec260 σ11 x2 x3 x4 1 x4)))))))
set_option maxHeartbeats 4000000 in
theorem b_fX11_shipWater_260B {E : Ev} {l : Launch} {p : Program} {e : Env} {s : State} {m : MethodId} {args : Array Value} {below : List Frame} {meth : Method} {c : Code} (C : CX false E RX11 cX11_shipWater 6 none p s m args meth c) {sr : St} (rec260 : St → Int32 → Int32 → Int32 → Option St) (hr260 : ∀ (σ : St) (x2 : Int32) (x3 : Int32) (x4 : Int32), rec260 σ x2 x3 x4 = some sr → GW false l (rmD 4) E 6 p e s m args below meth c (MQ below (QV false E sr s.heap.size) args s 0 0 (aW false E s.heap.size)) σ 260 [(0, .ref (ea E 0)), (2, .int x2), (3, .int x3), (4, .int x4)] []) : ∀ (σ : St) (x2 : Int32) (x3 : Int32) (x4 : Int32), fX11_shipWater_260B rec260 σ x2 x3 x4 = some sr → GW false l (rmD 4) E 6 p e s m args below meth c (MQ below (QV false E sr s.heap.size) args s 0 0 (aW false E s.heap.size)) σ 260 [(0, .ref (ea E 0)), (2, .int x2), (3, .int x3), (4, .int x4)] [] := by
  intro σ x2 x3 x4 hf H locs ls hP hS hl
  obtain ⟨hx, hb, hr, hml, hown, hts, hlocks, hK, hX, hj⟩ := id C
  unfold fX11_shipWater_260B at hf
  refine lv_iload hx hb dX11_shipWater_260 (lv_at hl 3 rfl) ?_
  refine lv_iload_n hx hb dX11_shipWater_262 rfl (lv_at hl 2 rfl) ?_
  refine lv_sipush (v := 144) hx hb dX11_shipWater_263 (by decide) ?_
  refine lv_iadd hx hb dX11_shipWater_266 ?_
  refine lv_icmp_ge (tgt := 324) hx hb dX11_shipWater_267 (by decide) (fun c1 => ?_) (fun c1 => ?_)
  · replace hf := it_t c1 hf
    cases hf
    exact r_vret C hP hS dX11_shipWater_324
  · replace hf := it_f c1 hf
    refine lv_aload_n hx hb dX11_shipWater_270 rfl (lv_at hl 0 rfl) ?_
    refine r_get (k := 10) (v := .ref (ea E 8)) C hP oM_0 rfl iX11 (by decide) wm_t1029 rfl rfl dX11_shipWater_271 ?_
    refine lv_iload hx hb dX11_shipWater_274 (lv_at hl 3 rfl) ?_
    refine lv_iconst (v := 0) hx hb dX11_shipWater_276 (by decide) ?_
    obtain ⟨h3, σ2, eσ2, hf⟩ := wrK_e hf
    refine r_zast C hP hS aM_8 h3 dX11_shipWater_277 (fun H locs hP hS => ?_)
    rw [← eσ2] at hP
    refine lv_aload_n hx hb dX11_shipWater_278 rfl (lv_at hl 0 rfl) ?_
    refine r_get (k := 7) (v := .ref (ea E 5)) C hP oM_0 rfl iX11 (by decide) wm_t1026 rfl rfl dX11_shipWater_279 ?_
    refine lv_iload hx hb dX11_shipWater_282 (lv_at hl 3 rfl) ?_
    have h5 := (rdK_e hf).1
    refine r_ald C hP aM_5 h5 dX11_shipWater_284 ?_
    refine lv_topi (fun v4 ev4 => ?_)
    replace hf := rdK_n ev4 hf
    refine lv_if_ne (tgt := 291) hx hb dX11_shipWater_285 (by decide) (fun c6 => ?_) (fun c6 => ?_)
    · replace hf := it_f c6 hf
      refine lv_aload_n hx hb dX11_shipWater_291 rfl (lv_at hl 0 rfl) ?_
      refine lv_iload hx hb dX11_shipWater_292 (lv_at hl 3 rfl) ?_
      refine lv_iload_n hx hb dX11_shipWater_294 rfl (lv_at hl 1 rfl) ?_
      obtain ⟨σ8, hc7, hf⟩ := cv_e hf
      refine r_cVv (n := 2) (As := [.int x4, .int x2]) (rest := []) C (c_fX11_takesShip hj σ2 H.size x4 x2 hc7) oM_0 rfl gv_RX11_297 (by decide +kernel) ⟨rfl, rfl, by decide, by decide⟩ rfl rfl (Nat.le_of_ble_eq_true rfl) dX11_shipWater_295 hP hS hl.1 (fun H locs hP hS => ?_)
      refine lv_aload_n hx hb dX11_shipWater_298 rfl (lv_at hl 0 rfl) ?_
      refine r_get (k := 10) (v := .ref (ea E 8)) C hP oM_0 rfl iX11 (by decide) wm_t1029 rfl rfl dX11_shipWater_299 ?_
      refine lv_iload hx hb dX11_shipWater_302 (lv_at hl 3 rfl) ?_
      refine lv_aload_n hx hb dX11_shipWater_304 rfl (lv_at hl 0 rfl) ?_
      refine lv_iconst (v := 2) hx hb dX11_shipWater_305 (by decide) ?_
      obtain ⟨r9, σ11, hc10, hf⟩ := cb_e hf
      refine r_cVi (n := 1) (As := [.int 2]) (rest := [.int x4, .ref (ea E 8)]) C (c_fX11_lawOf hj σ8 H.size 2 hc10) oM_0 rfl gv_RX11_300 (by decide +kernel) ⟨rfl, rfl, by decide, by decide⟩ rfl rfl (Nat.le_of_ble_eq_true rfl) dX11_shipWater_306 hP hS hl.1 (fun H locs hP hS => ?_)
      refine lv_if_le (tgt := 316) hx hb dX11_shipWater_309 (by decide) (fun c12 => ?_) (fun c12 => ?_)
      · replace hf := it_t c12 hf
        refine lv_iconst (v := 0) hx hb dX11_shipWater_316 (by decide) ?_
        exact b_fX11_shipWater_317 C rec260 hr260 σ11 x2 x3 x4 0 x4 hf H locs ls hP hS (lv_sub hl [0, 1, 2, 3] rfl)
      · replace hf := it_f c12 hf
        refine lv_iconst (v := 1) hx hb dX11_shipWater_312 (by decide) ?_
        refine lv_goto (tgt := 317) hx hb dX11_shipWater_313 (by decide) ?_
        exact b_fX11_shipWater_317 C rec260 hr260 σ11 x2 x3 x4 1 x4 hf H locs ls hP hS (lv_sub hl [0, 1, 2, 3] rfl)
    · replace hf := it_t c6 hf
      refine lv_goto (tgt := 318) hx hb dX11_shipWater_288 (by decide) ?_
      refine lv_iinc (v := (x4 + 1)) (lv' := [(4, .int (x4 + 1)), (0, .ref (ea E 0)), (2, .int x2), (3, .int x3)]) hx hb dX11_shipWater_318 hl (k := 3) rfl rfl (by decide) rfl (fun ls hl => ?_)
      refine lv_goto (tgt := 260) hx hb dX11_shipWater_321 (by decide) ?_
      exact hr260 σ2 x2 x3 (x4 + 1) hf H locs ls hP hS (lv_sub hl [1, 2, 3, 0] rfl)
def fX11_shipWater_260 : Nat → St → Int32 → Int32 → Int32 → Option St
  | 0 => fun _ _ _ _ => none
  | n + 1 => fun σ x2 x3 x4 => fX11_shipWater_260B (fX11_shipWater_260 n) σ x2 x3 x4
theorem b_fX11_shipWater_260 {E : Ev} {l : Launch} {p : Program} {e : Env} {s : State} {m : MethodId} {args : Array Value} {below : List Frame} {meth : Method} {c : Code} (C : CX false E RX11 cX11_shipWater 6 none p s m args meth c) {sr : St} : ∀ (n : Nat) (σ : St) (x2 : Int32) (x3 : Int32) (x4 : Int32), fX11_shipWater_260 n σ x2 x3 x4 = some sr → GW false l (rmD 4) E 6 p e s m args below meth c (MQ below (QV false E sr s.heap.size) args s 0 0 (aW false E s.heap.size)) σ 260 [(0, .ref (ea E 0)), (2, .int x2), (3, .int x3), (4, .int x4)] [] := by
  intro n
  induction n with
  | zero => intro σ x2 x3 x4 hf; have hf : (none : Option _) = some _ := hf; cases hf
  | succ n ih => intro σ x2 x3 x4 hf; exact b_fX11_shipWater_260B C (fX11_shipWater_260 n) ih σ x2 x3 x4 hf
def fX11_shipWater_154B (rec154 : St → Int32 → Int32 → Int32 → Int32 → Option St) (σ : St) (x1 : Int32) (x2 : Int32) (x3 : Int32) (x4 : Int32) : Option St :=
(if 144 ≤ x4 then
fX11_shipWater_260 FU σ x2 x3 x3
else
(if (x4 - x4 / 6 * 6) = 5 then
rec154 σ x1 x2 x3 (x4 + 1)
else
(rdK 288 (σ 6) (x3 + x4) fun v3 =>
(rdK 256 (σ 26) (x4 + 1) fun v5 =>
(rdK 288 (σ 6) (x3 + x4) fun v7 =>
(rdK 256 (σ 26) (x4 + 1) fun v9 =>
(wrK 288 σ 6 (x3 + x4) (fX11_more v7 v9) fun σ11 =>
(rdK 2 (σ11 9) x1 fun v13 =>
(rdK 288 (σ11 6) (x3 + x4) fun v15 =>
(wrK 2 σ11 9 x1 ((v13 + (v3 + v5)) - v15) fun σ17 =>
rec154 σ17 x1 x2 x3 (x4 + 1)))))))))))
set_option maxHeartbeats 4000000 in
theorem b_fX11_shipWater_154B {E : Ev} {l : Launch} {p : Program} {e : Env} {s : State} {m : MethodId} {args : Array Value} {below : List Frame} {meth : Method} {c : Code} (C : CX false E RX11 cX11_shipWater 6 none p s m args meth c) {sr : St} (rec154 : St → Int32 → Int32 → Int32 → Int32 → Option St) (hr154 : ∀ (σ : St) (x1 : Int32) (x2 : Int32) (x3 : Int32) (x4 : Int32), rec154 σ x1 x2 x3 x4 = some sr → GW false l (rmD 4) E 6 p e s m args below meth c (MQ below (QV false E sr s.heap.size) args s 0 0 (aW false E s.heap.size)) σ 154 [(0, .ref (ea E 0)), (1, .int x1), (2, .int x2), (3, .int x3), (4, .int x4)] []) : ∀ (σ : St) (x1 : Int32) (x2 : Int32) (x3 : Int32) (x4 : Int32), fX11_shipWater_154B rec154 σ x1 x2 x3 x4 = some sr → GW false l (rmD 4) E 6 p e s m args below meth c (MQ below (QV false E sr s.heap.size) args s 0 0 (aW false E s.heap.size)) σ 154 [(0, .ref (ea E 0)), (1, .int x1), (2, .int x2), (3, .int x3), (4, .int x4)] [] := by
  intro σ x1 x2 x3 x4 hf H locs ls hP hS hl
  obtain ⟨hx, hb, hr, hml, hown, hts, hlocks, hK, hX, hj⟩ := id C
  unfold fX11_shipWater_154B at hf
  refine lv_iload hx hb dX11_shipWater_154 (lv_at hl 4 rfl) ?_
  refine lv_sipush (v := 144) hx hb dX11_shipWater_156 (by decide) ?_
  refine lv_icmp_ge (tgt := 257) hx hb dX11_shipWater_159 (by decide) (fun c1 => ?_) (fun c1 => ?_)
  · replace hf := it_t c1 hf
    refine lv_iload_n hx hb dX11_shipWater_257 rfl (lv_at hl 3 rfl) ?_
    refine lv_istore (lv' := [(4, .int x3), (0, .ref (ea E 0)), (1, .int x1), (2, .int x2), (3, .int x3)]) hx hb dX11_shipWater_258 hl (by decide) rfl (fun ls hl => ?_)
    exact b_fX11_shipWater_260 C FU σ x2 x3 x3 hf H locs ls hP hS (lv_sub hl [1, 3, 4, 0] rfl)
  · replace hf := it_f c1 hf
    refine lv_iload hx hb dX11_shipWater_162 (lv_at hl 4 rfl) ?_
    refine lv_bipush (v := 6) hx hb dX11_shipWater_164 (by decide) ?_
    refine lv_irem hx hb dX11_shipWater_166 (by decide) ?_
    refine lv_iconst (v := 5) hx hb dX11_shipWater_167 (by decide) ?_
    refine lv_icmp_ne (tgt := 174) hx hb dX11_shipWater_168 (by decide) (fun c2 => ?_) (fun c2 => ?_)
    · replace hf := it_f c2 hf
      refine lv_aload_n hx hb dX11_shipWater_174 rfl (lv_at hl 0 rfl) ?_
      refine r_get (k := 8) (v := .ref (ea E 6)) C hP oM_0 rfl iX11 (by decide) wm_t1027 rfl rfl dX11_shipWater_175 ?_
      refine lv_iload_n hx hb dX11_shipWater_178 rfl (lv_at hl 3 rfl) ?_
      refine lv_iload hx hb dX11_shipWater_179 (lv_at hl 4 rfl) ?_
      refine lv_iadd hx hb dX11_shipWater_181 ?_
      have h4 := (rdK_e hf).1
      refine r_ald C hP aM_6 h4 dX11_shipWater_182 ?_
      refine lv_topi (fun v3 ev3 => ?_)
      replace hf := rdK_n ev3 hf
      refine lv_aload_n hx hb dX11_shipWater_183 rfl (lv_at hl 0 rfl) ?_
      refine r_get (k := 43) (v := .ref (ea E 26)) C hP oM_0 rfl iX11 (by decide) wm_t1062 rfl rfl dX11_shipWater_184 ?_
      refine lv_iload hx hb dX11_shipWater_187 (lv_at hl 4 rfl) ?_
      refine lv_iconst (v := 1) hx hb dX11_shipWater_189 (by decide) ?_
      refine lv_iadd hx hb dX11_shipWater_190 ?_
      have h6 := (rdK_e hf).1
      refine r_ald C hP aM_26 h6 dX11_shipWater_191 ?_
      refine lv_topi (fun v5 ev5 => ?_)
      replace hf := rdK_n ev5 hf
      refine lv_iadd hx hb dX11_shipWater_192 ?_
      refine lv_istore (lv' := [(5, .int (v3 + v5)), (0, .ref (ea E 0)), (1, .int x1), (2, .int x2), (3, .int x3), (4, .int x4)]) hx hb dX11_shipWater_193 hl (by decide) rfl (fun ls hl => ?_)
      refine lv_aload_n hx hb dX11_shipWater_195 rfl (lv_at hl 1 rfl) ?_
      refine r_get (k := 8) (v := .ref (ea E 6)) C hP oM_0 rfl iX11 (by decide) wm_t1027 rfl rfl dX11_shipWater_196 ?_
      refine lv_iload_n hx hb dX11_shipWater_199 rfl (lv_at hl 4 rfl) ?_
      refine lv_iload hx hb dX11_shipWater_200 (lv_at hl 5 rfl) ?_
      refine lv_iadd hx hb dX11_shipWater_202 ?_
      refine lv_aload_n hx hb dX11_shipWater_203 rfl (lv_at hl 1 rfl) ?_
      refine lv_aload_n hx hb dX11_shipWater_204 rfl (lv_at hl 1 rfl) ?_
      refine r_get (k := 8) (v := .ref (ea E 6)) C hP oM_0 rfl iX11 (by decide) wm_t1027 rfl rfl dX11_shipWater_205 ?_
      refine lv_iload_n hx hb dX11_shipWater_208 rfl (lv_at hl 4 rfl) ?_
      refine lv_iload hx hb dX11_shipWater_209 (lv_at hl 5 rfl) ?_
      refine lv_iadd hx hb dX11_shipWater_211 ?_
      have h8 := (rdK_e hf).1
      refine r_ald C hP aM_6 h8 dX11_shipWater_212 ?_
      refine lv_topi (fun v7 ev7 => ?_)
      replace hf := rdK_n ev7 hf
      refine lv_aload_n hx hb dX11_shipWater_213 rfl (lv_at hl 1 rfl) ?_
      refine r_get (k := 43) (v := .ref (ea E 26)) C hP oM_0 rfl iX11 (by decide) wm_t1062 rfl rfl dX11_shipWater_214 ?_
      refine lv_iload hx hb dX11_shipWater_217 (lv_at hl 5 rfl) ?_
      refine lv_iconst (v := 1) hx hb dX11_shipWater_219 (by decide) ?_
      refine lv_iadd hx hb dX11_shipWater_220 ?_
      have h10 := (rdK_e hf).1
      refine r_ald C hP aM_26 h10 dX11_shipWater_221 ?_
      refine lv_topi (fun v9 ev9 => ?_)
      replace hf := rdK_n ev9 hf
      refine r_cVi (n := 2) (As := [.int v7, .int v9]) (rest := [.int (x3 + x4), .ref (ea E 6)]) C (c_fX11_more hj σ H.size v7 v9) oM_0 rfl gv_RX11_303 (by decide +kernel) ⟨rfl, rfl, by decide, by decide⟩ rfl rfl (Nat.le_of_ble_eq_true rfl) dX11_shipWater_222 hP hS hl.1 (fun H locs hP hS => ?_)
      obtain ⟨h12, σ11, eσ11, hf⟩ := wrK_e hf
      refine r_ast C hP hS aM_6 h12 dX11_shipWater_225 (fun H locs hP hS => ?_)
      rw [← eσ11] at hP
      refine lv_aload_n hx hb dX11_shipWater_226 rfl (lv_at hl 1 rfl) ?_
      refine r_get (k := 12) (v := .ref (ea E 9)) C hP oM_0 rfl iX11 (by decide) wm_t1031 rfl rfl dX11_shipWater_227 ?_
      refine lv_iload_n hx hb dX11_shipWater_230 rfl (lv_at hl 2 rfl) ?_
      refine lv_aload_n hx hb dX11_shipWater_231 rfl (lv_at hl 1 rfl) ?_
      refine r_get (k := 12) (v := .ref (ea E 9)) C hP oM_0 rfl iX11 (by decide) wm_t1031 rfl rfl dX11_shipWater_232 ?_
      refine lv_iload_n hx hb dX11_shipWater_235 rfl (lv_at hl 2 rfl) ?_
      have h14 := (rdK_e hf).1
      refine r_ald C hP aM_9 h14 dX11_shipWater_236 ?_
      refine lv_topi (fun v13 ev13 => ?_)
      replace hf := rdK_n ev13 hf
      refine lv_iload hx hb dX11_shipWater_237 (lv_at hl 0 rfl) ?_
      refine lv_iadd hx hb dX11_shipWater_239 ?_
      refine lv_aload_n hx hb dX11_shipWater_240 rfl (lv_at hl 1 rfl) ?_
      refine r_get (k := 8) (v := .ref (ea E 6)) C hP oM_0 rfl iX11 (by decide) wm_t1027 rfl rfl dX11_shipWater_241 ?_
      refine lv_iload_n hx hb dX11_shipWater_244 rfl (lv_at hl 4 rfl) ?_
      refine lv_iload hx hb dX11_shipWater_245 (lv_at hl 5 rfl) ?_
      refine lv_iadd hx hb dX11_shipWater_247 ?_
      have h16 := (rdK_e hf).1
      refine r_ald C hP aM_6 h16 dX11_shipWater_248 ?_
      refine lv_topi (fun v15 ev15 => ?_)
      replace hf := rdK_n ev15 hf
      refine lv_isub hx hb dX11_shipWater_249 ?_
      obtain ⟨h18, σ17, eσ17, hf⟩ := wrK_e hf
      refine r_ast C hP hS aM_9 h18 dX11_shipWater_250 (fun H locs hP hS => ?_)
      rw [← eσ17] at hP
      refine lv_iinc (v := (x4 + 1)) (lv' := [(4, .int (x4 + 1)), (5, .int (v3 + v5)), (0, .ref (ea E 0)), (1, .int x1), (2, .int x2), (3, .int x3)]) hx hb dX11_shipWater_251 hl (k := 5) rfl rfl (by decide) rfl (fun ls hl => ?_)
      refine lv_goto (tgt := 154) hx hb dX11_shipWater_254 (by decide) ?_
      exact hr154 σ17 x1 x2 x3 (x4 + 1) hf H locs ls hP hS (lv_sub hl [2, 3, 4, 5, 0] rfl)
    · replace hf := it_t c2 hf
      refine lv_goto (tgt := 251) hx hb dX11_shipWater_171 (by decide) ?_
      refine lv_iinc (v := (x4 + 1)) (lv' := [(4, .int (x4 + 1)), (0, .ref (ea E 0)), (1, .int x1), (2, .int x2), (3, .int x3)]) hx hb dX11_shipWater_251 hl (k := 4) rfl rfl (by decide) rfl (fun ls hl => ?_)
      refine lv_goto (tgt := 154) hx hb dX11_shipWater_254 (by decide) ?_
      exact hr154 σ x1 x2 x3 (x4 + 1) hf H locs ls hP hS (lv_sub hl [1, 2, 3, 4, 0] rfl)
def fX11_shipWater_154 : Nat → St → Int32 → Int32 → Int32 → Int32 → Option St
  | 0 => fun _ _ _ _ _ => none
  | n + 1 => fun σ x1 x2 x3 x4 => fX11_shipWater_154B (fX11_shipWater_154 n) σ x1 x2 x3 x4
theorem b_fX11_shipWater_154 {E : Ev} {l : Launch} {p : Program} {e : Env} {s : State} {m : MethodId} {args : Array Value} {below : List Frame} {meth : Method} {c : Code} (C : CX false E RX11 cX11_shipWater 6 none p s m args meth c) {sr : St} : ∀ (n : Nat) (σ : St) (x1 : Int32) (x2 : Int32) (x3 : Int32) (x4 : Int32), fX11_shipWater_154 n σ x1 x2 x3 x4 = some sr → GW false l (rmD 4) E 6 p e s m args below meth c (MQ below (QV false E sr s.heap.size) args s 0 0 (aW false E s.heap.size)) σ 154 [(0, .ref (ea E 0)), (1, .int x1), (2, .int x2), (3, .int x3), (4, .int x4)] [] := by
  intro n
  induction n with
  | zero => intro σ x1 x2 x3 x4 hf; have hf : (none : Option _) = some _ := hf; cases hf
  | succ n ih => intro σ x1 x2 x3 x4 hf; exact b_fX11_shipWater_154B C (fX11_shipWater_154 n) ih σ x1 x2 x3 x4 hf
def fX11_shipWater_83B (rec83 : St → Int32 → Int32 → Int32 → Int32 → Option St) (σ : St) (x1 : Int32) (x2 : Int32) (x3 : Int32) (x4 : Int32) : Option St :=
(if 144 ≤ x4 then
fX11_shipWater_154 FU σ x1 x2 x3 0
else
(rdK 288 (σ 6) (x3 + x4) fun v2 =>
(rdK 256 (σ 26) x4 fun v4 =>
(wrK 288 σ 6 (x3 + x4) (v2 - v4) fun σ6 =>
(if (x4 - x4 / 6 * 6) = 0 then
(rdK 2 (σ6 9) x1 fun v9 =>
(rdK 256 (σ6 26) x4 fun v11 =>
(wrK 2 σ6 9 x1 (v9 + v11) fun σ13 =>
rec83 σ13 x1 x2 x3 (x4 + 1))))
else
rec83 σ6 x1 x2 x3 (x4 + 1))))))
set_option maxHeartbeats 4000000 in
theorem b_fX11_shipWater_83B {E : Ev} {l : Launch} {p : Program} {e : Env} {s : State} {m : MethodId} {args : Array Value} {below : List Frame} {meth : Method} {c : Code} (C : CX false E RX11 cX11_shipWater 6 none p s m args meth c) {sr : St} (rec83 : St → Int32 → Int32 → Int32 → Int32 → Option St) (hr83 : ∀ (σ : St) (x1 : Int32) (x2 : Int32) (x3 : Int32) (x4 : Int32), rec83 σ x1 x2 x3 x4 = some sr → GW false l (rmD 4) E 6 p e s m args below meth c (MQ below (QV false E sr s.heap.size) args s 0 0 (aW false E s.heap.size)) σ 83 [(0, .ref (ea E 0)), (1, .int x1), (2, .int x2), (3, .int x3), (4, .int x4)] []) : ∀ (σ : St) (x1 : Int32) (x2 : Int32) (x3 : Int32) (x4 : Int32), fX11_shipWater_83B rec83 σ x1 x2 x3 x4 = some sr → GW false l (rmD 4) E 6 p e s m args below meth c (MQ below (QV false E sr s.heap.size) args s 0 0 (aW false E s.heap.size)) σ 83 [(0, .ref (ea E 0)), (1, .int x1), (2, .int x2), (3, .int x3), (4, .int x4)] [] := by
  intro σ x1 x2 x3 x4 hf H locs ls hP hS hl
  obtain ⟨hx, hb, hr, hml, hown, hts, hlocks, hK, hX, hj⟩ := id C
  unfold fX11_shipWater_83B at hf
  refine lv_iload hx hb dX11_shipWater_83 (lv_at hl 4 rfl) ?_
  refine lv_sipush (v := 144) hx hb dX11_shipWater_85 (by decide) ?_
  refine lv_icmp_ge (tgt := 151) hx hb dX11_shipWater_88 (by decide) (fun c1 => ?_) (fun c1 => ?_)
  · replace hf := it_t c1 hf
    refine lv_iconst (v := 0) hx hb dX11_shipWater_151 (by decide) ?_
    refine lv_istore (lv' := [(4, .int 0), (0, .ref (ea E 0)), (1, .int x1), (2, .int x2), (3, .int x3)]) hx hb dX11_shipWater_152 hl (by decide) rfl (fun ls hl => ?_)
    exact b_fX11_shipWater_154 C FU σ x1 x2 x3 0 hf H locs ls hP hS (lv_sub hl [1, 2, 3, 4, 0] rfl)
  · replace hf := it_f c1 hf
    refine lv_aload_n hx hb dX11_shipWater_91 rfl (lv_at hl 0 rfl) ?_
    refine r_get (k := 8) (v := .ref (ea E 6)) C hP oM_0 rfl iX11 (by decide) wm_t1027 rfl rfl dX11_shipWater_92 ?_
    refine lv_iload_n hx hb dX11_shipWater_95 rfl (lv_at hl 3 rfl) ?_
    refine lv_iload hx hb dX11_shipWater_96 (lv_at hl 4 rfl) ?_
    refine lv_iadd hx hb dX11_shipWater_98 ?_
    refine lv_aload_n hx hb dX11_shipWater_99 rfl (lv_at hl 0 rfl) ?_
    refine r_get (k := 8) (v := .ref (ea E 6)) C hP oM_0 rfl iX11 (by decide) wm_t1027 rfl rfl dX11_shipWater_100 ?_
    refine lv_iload_n hx hb dX11_shipWater_103 rfl (lv_at hl 3 rfl) ?_
    refine lv_iload hx hb dX11_shipWater_104 (lv_at hl 4 rfl) ?_
    refine lv_iadd hx hb dX11_shipWater_106 ?_
    have h3 := (rdK_e hf).1
    refine r_ald C hP aM_6 h3 dX11_shipWater_107 ?_
    refine lv_topi (fun v2 ev2 => ?_)
    replace hf := rdK_n ev2 hf
    refine lv_aload_n hx hb dX11_shipWater_108 rfl (lv_at hl 0 rfl) ?_
    refine r_get (k := 43) (v := .ref (ea E 26)) C hP oM_0 rfl iX11 (by decide) wm_t1062 rfl rfl dX11_shipWater_109 ?_
    refine lv_iload hx hb dX11_shipWater_112 (lv_at hl 4 rfl) ?_
    have h5 := (rdK_e hf).1
    refine r_ald C hP aM_26 h5 dX11_shipWater_114 ?_
    refine lv_topi (fun v4 ev4 => ?_)
    replace hf := rdK_n ev4 hf
    refine lv_isub hx hb dX11_shipWater_115 ?_
    obtain ⟨h7, σ6, eσ6, hf⟩ := wrK_e hf
    refine r_ast C hP hS aM_6 h7 dX11_shipWater_116 (fun H locs hP hS => ?_)
    rw [← eσ6] at hP
    refine lv_iload hx hb dX11_shipWater_117 (lv_at hl 4 rfl) ?_
    refine lv_bipush (v := 6) hx hb dX11_shipWater_119 (by decide) ?_
    refine lv_irem hx hb dX11_shipWater_121 (by decide) ?_
    refine lv_if_ne (tgt := 145) hx hb dX11_shipWater_122 (by decide) (fun c8 => ?_) (fun c8 => ?_)
    · replace hf := it_f c8 hf
      refine lv_iinc (v := (x4 + 1)) (lv' := [(4, .int (x4 + 1)), (0, .ref (ea E 0)), (1, .int x1), (2, .int x2), (3, .int x3)]) hx hb dX11_shipWater_145 hl (k := 4) rfl rfl (by decide) rfl (fun ls hl => ?_)
      refine lv_goto (tgt := 83) hx hb dX11_shipWater_148 (by decide) ?_
      exact hr83 σ6 x1 x2 x3 (x4 + 1) hf H locs ls hP hS (lv_sub hl [1, 2, 3, 4, 0] rfl)
    · replace hf := it_t c8 hf
      refine lv_aload_n hx hb dX11_shipWater_125 rfl (lv_at hl 0 rfl) ?_
      refine r_get (k := 12) (v := .ref (ea E 9)) C hP oM_0 rfl iX11 (by decide) wm_t1031 rfl rfl dX11_shipWater_126 ?_
      refine lv_iload_n hx hb dX11_shipWater_129 rfl (lv_at hl 1 rfl) ?_
      refine lv_aload_n hx hb dX11_shipWater_130 rfl (lv_at hl 0 rfl) ?_
      refine r_get (k := 12) (v := .ref (ea E 9)) C hP oM_0 rfl iX11 (by decide) wm_t1031 rfl rfl dX11_shipWater_131 ?_
      refine lv_iload_n hx hb dX11_shipWater_134 rfl (lv_at hl 1 rfl) ?_
      have h10 := (rdK_e hf).1
      refine r_ald C hP aM_9 h10 dX11_shipWater_135 ?_
      refine lv_topi (fun v9 ev9 => ?_)
      replace hf := rdK_n ev9 hf
      refine lv_aload_n hx hb dX11_shipWater_136 rfl (lv_at hl 0 rfl) ?_
      refine r_get (k := 43) (v := .ref (ea E 26)) C hP oM_0 rfl iX11 (by decide) wm_t1062 rfl rfl dX11_shipWater_137 ?_
      refine lv_iload hx hb dX11_shipWater_140 (lv_at hl 4 rfl) ?_
      have h12 := (rdK_e hf).1
      refine r_ald C hP aM_26 h12 dX11_shipWater_142 ?_
      refine lv_topi (fun v11 ev11 => ?_)
      replace hf := rdK_n ev11 hf
      refine lv_iadd hx hb dX11_shipWater_143 ?_
      obtain ⟨h14, σ13, eσ13, hf⟩ := wrK_e hf
      refine r_ast C hP hS aM_9 h14 dX11_shipWater_144 (fun H locs hP hS => ?_)
      rw [← eσ13] at hP
      refine lv_iinc (v := (x4 + 1)) (lv' := [(4, .int (x4 + 1)), (0, .ref (ea E 0)), (1, .int x1), (2, .int x2), (3, .int x3)]) hx hb dX11_shipWater_145 hl (k := 4) rfl rfl (by decide) rfl (fun ls hl => ?_)
      refine lv_goto (tgt := 83) hx hb dX11_shipWater_148 (by decide) ?_
      exact hr83 σ13 x1 x2 x3 (x4 + 1) hf H locs ls hP hS (lv_sub hl [1, 2, 3, 4, 0] rfl)
def fX11_shipWater_83 : Nat → St → Int32 → Int32 → Int32 → Int32 → Option St
  | 0 => fun _ _ _ _ _ => none
  | n + 1 => fun σ x1 x2 x3 x4 => fX11_shipWater_83B (fX11_shipWater_83 n) σ x1 x2 x3 x4
theorem b_fX11_shipWater_83 {E : Ev} {l : Launch} {p : Program} {e : Env} {s : State} {m : MethodId} {args : Array Value} {below : List Frame} {meth : Method} {c : Code} (C : CX false E RX11 cX11_shipWater 6 none p s m args meth c) {sr : St} : ∀ (n : Nat) (σ : St) (x1 : Int32) (x2 : Int32) (x3 : Int32) (x4 : Int32), fX11_shipWater_83 n σ x1 x2 x3 x4 = some sr → GW false l (rmD 4) E 6 p e s m args below meth c (MQ below (QV false E sr s.heap.size) args s 0 0 (aW false E s.heap.size)) σ 83 [(0, .ref (ea E 0)), (1, .int x1), (2, .int x2), (3, .int x3), (4, .int x4)] [] := by
  intro n
  induction n with
  | zero => intro σ x1 x2 x3 x4 hf; have hf : (none : Option _) = some _ := hf; cases hf
  | succ n ih => intro σ x1 x2 x3 x4 hf; exact b_fX11_shipWater_83B C (fX11_shipWater_83 n) ih σ x1 x2 x3 x4 hf
def fX11_shipWater_9B (rec9 : St → Int32 → Int32 → Int32 → Int32 → Option St) (σ : St) (x1 : Int32) (x2 : Int32) (x3 : Int32) (x4 : Int32) : Option St :=
(if 144 ≤ x4 then
fX11_shipWater_83 FU σ x1 x2 x3 0
else
(wrK 256 σ 26 x4 0 fun σ2 =>
(rdK 288 (σ2 5) (x3 + x4) fun v4 =>
(if v4 = 0 then
rec9 σ2 x1 x2 x3 (x4 + 1)
else
(cv (fX11_takesShip σ2 (x3 + x4) x2) fun σ8 =>
(cb (fX11_lawOf σ8 0) fun r9 σ11 =>
(rdK 288 (σ11 6) (x3 + x4) fun v12 =>
(wrK 256 σ11 26 x4 (fX11_cut r9 v12) fun σ14 =>
rec9 σ14 x1 x2 x3 (x4 + 1)))))))))
set_option maxHeartbeats 4000000 in
theorem b_fX11_shipWater_9B {E : Ev} {l : Launch} {p : Program} {e : Env} {s : State} {m : MethodId} {args : Array Value} {below : List Frame} {meth : Method} {c : Code} (C : CX false E RX11 cX11_shipWater 6 none p s m args meth c) {sr : St} (rec9 : St → Int32 → Int32 → Int32 → Int32 → Option St) (hr9 : ∀ (σ : St) (x1 : Int32) (x2 : Int32) (x3 : Int32) (x4 : Int32), rec9 σ x1 x2 x3 x4 = some sr → GW false l (rmD 4) E 6 p e s m args below meth c (MQ below (QV false E sr s.heap.size) args s 0 0 (aW false E s.heap.size)) σ 9 [(0, .ref (ea E 0)), (1, .int x1), (2, .int x2), (3, .int x3), (4, .int x4)] []) : ∀ (σ : St) (x1 : Int32) (x2 : Int32) (x3 : Int32) (x4 : Int32), fX11_shipWater_9B rec9 σ x1 x2 x3 x4 = some sr → GW false l (rmD 4) E 6 p e s m args below meth c (MQ below (QV false E sr s.heap.size) args s 0 0 (aW false E s.heap.size)) σ 9 [(0, .ref (ea E 0)), (1, .int x1), (2, .int x2), (3, .int x3), (4, .int x4)] [] := by
  intro σ x1 x2 x3 x4 hf H locs ls hP hS hl
  obtain ⟨hx, hb, hr, hml, hown, hts, hlocks, hK, hX, hj⟩ := id C
  unfold fX11_shipWater_9B at hf
  refine lv_iload hx hb dX11_shipWater_9 (lv_at hl 4 rfl) ?_
  refine lv_sipush (v := 144) hx hb dX11_shipWater_11 (by decide) ?_
  refine lv_icmp_ge (tgt := 80) hx hb dX11_shipWater_14 (by decide) (fun c1 => ?_) (fun c1 => ?_)
  · replace hf := it_t c1 hf
    refine lv_iconst (v := 0) hx hb dX11_shipWater_80 (by decide) ?_
    refine lv_istore (lv' := [(4, .int 0), (0, .ref (ea E 0)), (1, .int x1), (2, .int x2), (3, .int x3)]) hx hb dX11_shipWater_81 hl (by decide) rfl (fun ls hl => ?_)
    exact b_fX11_shipWater_83 C FU σ x1 x2 x3 0 hf H locs ls hP hS (lv_sub hl [1, 2, 3, 4, 0] rfl)
  · replace hf := it_f c1 hf
    refine lv_aload_n hx hb dX11_shipWater_17 rfl (lv_at hl 0 rfl) ?_
    refine r_get (k := 43) (v := .ref (ea E 26)) C hP oM_0 rfl iX11 (by decide) wm_t1062 rfl rfl dX11_shipWater_18 ?_
    refine lv_iload hx hb dX11_shipWater_21 (lv_at hl 4 rfl) ?_
    refine lv_iconst (v := 0) hx hb dX11_shipWater_23 (by decide) ?_
    obtain ⟨h3, σ2, eσ2, hf⟩ := wrK_e hf
    refine r_ast C hP hS aM_26 h3 dX11_shipWater_24 (fun H locs hP hS => ?_)
    rw [← eσ2] at hP
    refine lv_aload_n hx hb dX11_shipWater_25 rfl (lv_at hl 0 rfl) ?_
    refine r_get (k := 7) (v := .ref (ea E 5)) C hP oM_0 rfl iX11 (by decide) wm_t1026 rfl rfl dX11_shipWater_26 ?_
    refine lv_iload_n hx hb dX11_shipWater_29 rfl (lv_at hl 3 rfl) ?_
    refine lv_iload hx hb dX11_shipWater_30 (lv_at hl 4 rfl) ?_
    refine lv_iadd hx hb dX11_shipWater_32 ?_
    have h5 := (rdK_e hf).1
    refine r_ald C hP aM_5 h5 dX11_shipWater_33 ?_
    refine lv_topi (fun v4 ev4 => ?_)
    replace hf := rdK_n ev4 hf
    refine lv_if_ne (tgt := 40) hx hb dX11_shipWater_34 (by decide) (fun c6 => ?_) (fun c6 => ?_)
    · replace hf := it_f c6 hf
      refine lv_aload_n hx hb dX11_shipWater_40 rfl (lv_at hl 0 rfl) ?_
      refine lv_iload_n hx hb dX11_shipWater_41 rfl (lv_at hl 3 rfl) ?_
      refine lv_iload hx hb dX11_shipWater_42 (lv_at hl 4 rfl) ?_
      refine lv_iadd hx hb dX11_shipWater_44 ?_
      refine lv_iload_n hx hb dX11_shipWater_45 rfl (lv_at hl 2 rfl) ?_
      obtain ⟨σ8, hc7, hf⟩ := cv_e hf
      refine r_cVv (n := 2) (As := [.int (x3 + x4), .int x2]) (rest := []) C (c_fX11_takesShip hj σ2 H.size (x3 + x4) x2 hc7) oM_0 rfl gv_RX11_297 (by decide +kernel) ⟨rfl, rfl, by decide, by decide⟩ rfl rfl (Nat.le_of_ble_eq_true rfl) dX11_shipWater_46 hP hS hl.1 (fun H locs hP hS => ?_)
      refine lv_aload_n hx hb dX11_shipWater_49 rfl (lv_at hl 0 rfl) ?_
      refine r_get (k := 43) (v := .ref (ea E 26)) C hP oM_0 rfl iX11 (by decide) wm_t1062 rfl rfl dX11_shipWater_50 ?_
      refine lv_iload hx hb dX11_shipWater_53 (lv_at hl 4 rfl) ?_
      refine lv_aload_n hx hb dX11_shipWater_55 rfl (lv_at hl 0 rfl) ?_
      refine lv_aload_n hx hb dX11_shipWater_56 rfl (lv_at hl 0 rfl) ?_
      refine lv_iconst (v := 0) hx hb dX11_shipWater_57 (by decide) ?_
      obtain ⟨r9, σ11, hc10, hf⟩ := cb_e hf
      refine r_cVi (n := 1) (As := [.int 0]) (rest := [.ref (ea E 0), .int x4, .ref (ea E 26)]) C (c_fX11_lawOf hj σ8 H.size 0 hc10) oM_0 rfl gv_RX11_300 (by decide +kernel) ⟨rfl, rfl, by decide, by decide⟩ rfl rfl (Nat.le_of_ble_eq_true rfl) dX11_shipWater_58 hP hS hl.1 (fun H locs hP hS => ?_)
      refine lv_aload_n hx hb dX11_shipWater_61 rfl (lv_at hl 0 rfl) ?_
      refine r_get (k := 8) (v := .ref (ea E 6)) C hP oM_0 rfl iX11 (by decide) wm_t1027 rfl rfl dX11_shipWater_62 ?_
      refine lv_iload_n hx hb dX11_shipWater_65 rfl (lv_at hl 3 rfl) ?_
      refine lv_iload hx hb dX11_shipWater_66 (lv_at hl 4 rfl) ?_
      refine lv_iadd hx hb dX11_shipWater_68 ?_
      have h13 := (rdK_e hf).1
      refine r_ald C hP aM_6 h13 dX11_shipWater_69 ?_
      refine lv_topi (fun v12 ev12 => ?_)
      replace hf := rdK_n ev12 hf
      refine r_cVi (n := 2) (As := [.int r9, .int v12]) (rest := [.int x4, .ref (ea E 26)]) C (c_fX11_cut hj σ11 H.size r9 v12) oM_0 rfl gv_RX11_309 (by decide +kernel) ⟨rfl, rfl, by decide, by decide⟩ rfl rfl (Nat.le_of_ble_eq_true rfl) dX11_shipWater_70 hP hS hl.1 (fun H locs hP hS => ?_)
      obtain ⟨h15, σ14, eσ14, hf⟩ := wrK_e hf
      refine r_ast C hP hS aM_26 h15 dX11_shipWater_73 (fun H locs hP hS => ?_)
      rw [← eσ14] at hP
      refine lv_iinc (v := (x4 + 1)) (lv' := [(4, .int (x4 + 1)), (0, .ref (ea E 0)), (1, .int x1), (2, .int x2), (3, .int x3)]) hx hb dX11_shipWater_74 hl (k := 4) rfl rfl (by decide) rfl (fun ls hl => ?_)
      refine lv_goto (tgt := 9) hx hb dX11_shipWater_77 (by decide) ?_
      exact hr9 σ14 x1 x2 x3 (x4 + 1) hf H locs ls hP hS (lv_sub hl [1, 2, 3, 4, 0] rfl)
    · replace hf := it_t c6 hf
      refine lv_goto (tgt := 74) hx hb dX11_shipWater_37 (by decide) ?_
      refine lv_iinc (v := (x4 + 1)) (lv' := [(4, .int (x4 + 1)), (0, .ref (ea E 0)), (1, .int x1), (2, .int x2), (3, .int x3)]) hx hb dX11_shipWater_74 hl (k := 4) rfl rfl (by decide) rfl (fun ls hl => ?_)
      refine lv_goto (tgt := 9) hx hb dX11_shipWater_77 (by decide) ?_
      exact hr9 σ2 x1 x2 x3 (x4 + 1) hf H locs ls hP hS (lv_sub hl [1, 2, 3, 4, 0] rfl)
def fX11_shipWater_9 : Nat → St → Int32 → Int32 → Int32 → Int32 → Option St
  | 0 => fun _ _ _ _ _ => none
  | n + 1 => fun σ x1 x2 x3 x4 => fX11_shipWater_9B (fX11_shipWater_9 n) σ x1 x2 x3 x4
theorem b_fX11_shipWater_9 {E : Ev} {l : Launch} {p : Program} {e : Env} {s : State} {m : MethodId} {args : Array Value} {below : List Frame} {meth : Method} {c : Code} (C : CX false E RX11 cX11_shipWater 6 none p s m args meth c) {sr : St} : ∀ (n : Nat) (σ : St) (x1 : Int32) (x2 : Int32) (x3 : Int32) (x4 : Int32), fX11_shipWater_9 n σ x1 x2 x3 x4 = some sr → GW false l (rmD 4) E 6 p e s m args below meth c (MQ below (QV false E sr s.heap.size) args s 0 0 (aW false E s.heap.size)) σ 9 [(0, .ref (ea E 0)), (1, .int x1), (2, .int x2), (3, .int x3), (4, .int x4)] [] := by
  intro n
  induction n with
  | zero => intro σ x1 x2 x3 x4 hf; have hf : (none : Option _) = some _ := hf; cases hf
  | succ n ih => intro σ x1 x2 x3 x4 hf; exact b_fX11_shipWater_9B C (fX11_shipWater_9 n) ih σ x1 x2 x3 x4 hf
def fX11_shipWater (σ : St) (a0 : Int32) (a1 : Int32) : Option St :=
fX11_shipWater_9 FU σ a0 a1 (144 * a0) 0
set_option maxHeartbeats 4000000 in
theorem c_fX11_shipWater {E : Ev} {l : Launch} (hj : jW false E) (σ : St) (sz : Nat) (a0 : Int32) (a1 : Int32) {sr : St} (hf : fX11_shipWater σ a0 a1 = some sr) : Met l yX11_shipWater (Cond.code yX11_shipWater cX11_shipWater 6 none :: gT) (rmD 4) (va_Pc [.ref (ea E 0), .int a0, .int a1] (preW false E σ sz)) (QV false E sr sz) 0 0 (aW false E sz) := by
  refine r_entry (QV false E sr) hj (by decide) [.ref (ea E 0), .int a0, .int a1] (Nat.le_of_ble_eq_true rfl) (fun p e s m args below meth c C => ?_)
  intro H locs ls hP hS hl
  have hl : lv_has ls 6 [(0, .ref (ea E 0)), (1, .int a0), (2, .int a1)] := hl
  obtain ⟨hx, hb, hr, hml, hown, hts, hlocks, hK, hX, hj⟩ := id C
  unfold fX11_shipWater at hf
  refine lv_sipush (v := 144) hx hb dX11_shipWater_0 (by decide) ?_
  refine lv_iload_n hx hb dX11_shipWater_3 rfl (lv_at hl 1 rfl) ?_
  refine lv_imul hx hb dX11_shipWater_4 ?_
  refine lv_istore_n (lv' := [(3, .int (144 * a0)), (0, .ref (ea E 0)), (1, .int a0), (2, .int a1)]) hx hb dX11_shipWater_5 rfl hl (by decide) rfl (fun ls hl => ?_)
  refine lv_iconst (v := 0) hx hb dX11_shipWater_6 (by decide) ?_
  refine lv_istore (lv' := [(4, .int 0), (3, .int (144 * a0)), (0, .ref (ea E 0)), (1, .int a0), (2, .int a1)]) hx hb dX11_shipWater_7 hl (by decide) rfl (fun ls hl => ?_)
  exact b_fX11_shipWater_9 C FU σ a0 a1 (144 * a0) 0 hf H locs ls hP hS (lv_sub hl [2, 3, 4, 1, 0] rfl)
def fX11_columnArm (a0 : Int32) : Int32 :=
((2 * ((a0 / 6) - (a0 / 6) / 6 * 6)) - 5)
set_option maxHeartbeats 4000000 in
theorem c_fX11_columnArm {E : Ev} {l : Launch} (hj : jW false E) (σ : St) (sz : Nat) (a0 : Int32) : Met l yX11_columnArm (Cond.code yX11_columnArm cX11_columnArm 2 (some .int) :: gT) (rmD 1) (va_Pc [.ref (ea E 0), .int a0] (preW false E σ sz)) (QI false E (fX11_columnArm a0) σ sz) 0 0 (aW false E sz) := by
  refine r_entry (QI false E (fX11_columnArm a0) σ) hj (by decide) [.ref (ea E 0), .int a0] (Nat.le_of_ble_eq_true rfl) (fun p e s m args below meth c C => ?_)
  intro H locs ls hP hS hl
  have hl : lv_has ls 2 [(0, .ref (ea E 0)), (1, .int a0)] := hl
  obtain ⟨hx, hb, hr, hml, hown, hts, hlocks, hK, hX, hj⟩ := id C
  generalize hf : fX11_columnArm a0 = rr
  unfold fX11_columnArm at hf
  refine lv_iconst (v := 2) hx hb dX11_columnArm_0 (by decide) ?_
  refine lv_iload_n hx hb dX11_columnArm_1 rfl (lv_at hl 1 rfl) ?_
  refine lv_bipush (v := 6) hx hb dX11_columnArm_2 (by decide) ?_
  refine lv_idiv hx hb dX11_columnArm_4 (by decide) ?_
  refine lv_bipush (v := 6) hx hb dX11_columnArm_5 (by decide) ?_
  refine lv_irem hx hb dX11_columnArm_7 (by decide) ?_
  refine lv_imul hx hb dX11_columnArm_8 ?_
  refine lv_iconst (v := 5) hx hb dX11_columnArm_9 (by decide) ?_
  refine lv_isub hx hb dX11_columnArm_10 ?_
  subst hf
  exact r_iret C hP hS dX11_columnArm_11
def fX11_momentOf_8B (σ : St) (rec8 : Int32 → Int32 → Int32 → Option Int32) (x1 : Int32) (x2 : Int32) (x3 : Int32) : Option Int32 :=
(if ((144 * x1) + 144) ≤ x3 then
some x2
else
(rdK 288 (σ 5) x3 fun v2 =>
(rdK 288 (σ 6) x3 fun v4 =>
(nm (x2 + (((10 * v2) + v4) * (fX11_columnArm x3))) fun v6 =>
rec8 x1 v6 (x3 + 1)))))
set_option maxHeartbeats 4000000 in
theorem b_fX11_momentOf_8B {E : Ev} {l : Launch} {p : Program} {e : Env} {s : State} {m : MethodId} {args : Array Value} {below : List Frame} {meth : Method} {c : Code} (σ : St) (C : CX false E RX11 cX11_momentOf 4 (some .int) p s m args meth c) {rr : Int32} (rec8 : Int32 → Int32 → Int32 → Option Int32) (hr8 : ∀  (x1 : Int32) (x2 : Int32) (x3 : Int32), rec8 x1 x2 x3 = some rr → GW false l (rmD 2) E 4 p e s m args below meth c (MQ below (QI false E rr σ s.heap.size) args s 0 0 (aW false E s.heap.size)) σ 8 [(0, .ref (ea E 0)), (1, .int x1), (2, .int x2), (3, .int x3)] []) : ∀  (x1 : Int32) (x2 : Int32) (x3 : Int32), fX11_momentOf_8B σ rec8 x1 x2 x3 = some rr → GW false l (rmD 2) E 4 p e s m args below meth c (MQ below (QI false E rr σ s.heap.size) args s 0 0 (aW false E s.heap.size)) σ 8 [(0, .ref (ea E 0)), (1, .int x1), (2, .int x2), (3, .int x3)] [] := by
  intro x1 x2 x3 hf H locs ls hP hS hl
  obtain ⟨hx, hb, hr, hml, hown, hts, hlocks, hK, hX, hj⟩ := id C
  unfold fX11_momentOf_8B at hf
  refine lv_iload_n hx hb dX11_momentOf_8 rfl (lv_at hl 3 rfl) ?_
  refine lv_sipush (v := 144) hx hb dX11_momentOf_9 (by decide) ?_
  refine lv_iload_n hx hb dX11_momentOf_12 rfl (lv_at hl 1 rfl) ?_
  refine lv_imul hx hb dX11_momentOf_13 ?_
  refine lv_sipush (v := 144) hx hb dX11_momentOf_14 (by decide) ?_
  refine lv_iadd hx hb dX11_momentOf_17 ?_
  refine lv_icmp_ge (tgt := 52) hx hb dX11_momentOf_18 (by decide) (fun c1 => ?_) (fun c1 => ?_)
  · replace hf := it_t c1 hf
    refine lv_iload_n hx hb dX11_momentOf_52 rfl (lv_at hl 2 rfl) ?_
    cases hf
    exact r_iret C hP hS dX11_momentOf_53
  · replace hf := it_f c1 hf
    refine lv_iload_n hx hb dX11_momentOf_21 rfl (lv_at hl 2 rfl) ?_
    refine lv_bipush (v := 10) hx hb dX11_momentOf_22 (by decide) ?_
    refine lv_aload_n hx hb dX11_momentOf_24 rfl (lv_at hl 0 rfl) ?_
    refine r_get (k := 7) (v := .ref (ea E 5)) C hP oM_0 rfl iX11 (by decide) wm_t1026 rfl rfl dX11_momentOf_25 ?_
    refine lv_iload_n hx hb dX11_momentOf_28 rfl (lv_at hl 3 rfl) ?_
    have h3 := (rdK_e hf).1
    refine r_ald C hP aM_5 h3 dX11_momentOf_29 ?_
    refine lv_topi (fun v2 ev2 => ?_)
    replace hf := rdK_n ev2 hf
    refine lv_imul hx hb dX11_momentOf_30 ?_
    refine lv_aload_n hx hb dX11_momentOf_31 rfl (lv_at hl 0 rfl) ?_
    refine r_get (k := 8) (v := .ref (ea E 6)) C hP oM_0 rfl iX11 (by decide) wm_t1027 rfl rfl dX11_momentOf_32 ?_
    refine lv_iload_n hx hb dX11_momentOf_35 rfl (lv_at hl 3 rfl) ?_
    have h5 := (rdK_e hf).1
    refine r_ald C hP aM_6 h5 dX11_momentOf_36 ?_
    refine lv_topi (fun v4 ev4 => ?_)
    replace hf := rdK_n ev4 hf
    refine lv_iadd hx hb dX11_momentOf_37 ?_
    refine lv_aload_n hx hb dX11_momentOf_38 rfl (lv_at hl 0 rfl) ?_
    refine lv_iload_n hx hb dX11_momentOf_39 rfl (lv_at hl 3 rfl) ?_
    refine r_cVi (n := 1) (As := [.int x3]) (rest := [.int ((10 * v2) + v4), .int x2]) C (c_fX11_columnArm hj σ H.size x3) oM_0 rfl gv_RX11_312 (by decide +kernel) ⟨rfl, rfl, by decide, by decide⟩ rfl rfl (Nat.le_of_ble_eq_true rfl) dX11_momentOf_40 hP hS hl.1 (fun H locs hP hS => ?_)
    refine lv_imul hx hb dX11_momentOf_43 ?_
    refine lv_iadd hx hb dX11_momentOf_44 ?_
    refine lv_topi (fun v6 ev6 => ?_)
    replace hf := nm_i ev6 hf
    refine lv_istore_n (lv' := [(2, .int v6), (0, .ref (ea E 0)), (1, .int x1), (3, .int x3)]) hx hb dX11_momentOf_45 rfl hl (by decide) rfl (fun ls hl => ?_)
    refine lv_iinc (v := (x3 + 1)) (lv' := [(3, .int (x3 + 1)), (2, .int v6), (0, .ref (ea E 0)), (1, .int x1)]) hx hb dX11_momentOf_46 hl (k := 3) rfl rfl (by decide) rfl (fun ls hl => ?_)
    refine lv_goto (tgt := 8) hx hb dX11_momentOf_49 (by decide) ?_
    exact hr8 x1 v6 (x3 + 1) hf H locs ls hP hS (lv_sub hl [2, 3, 1, 0] rfl)
def fX11_momentOf_8 (σ : St) : Nat → Int32 → Int32 → Int32 → Option Int32
  | 0 => fun _ _ _ => none
  | n + 1 => fun x1 x2 x3 => fX11_momentOf_8B σ (fX11_momentOf_8 σ n) x1 x2 x3
theorem b_fX11_momentOf_8 {E : Ev} {l : Launch} {p : Program} {e : Env} {s : State} {m : MethodId} {args : Array Value} {below : List Frame} {meth : Method} {c : Code} (σ : St) (C : CX false E RX11 cX11_momentOf 4 (some .int) p s m args meth c) {rr : Int32} : ∀ (n : Nat) (x1 : Int32) (x2 : Int32) (x3 : Int32), fX11_momentOf_8 σ n x1 x2 x3 = some rr → GW false l (rmD 2) E 4 p e s m args below meth c (MQ below (QI false E rr σ s.heap.size) args s 0 0 (aW false E s.heap.size)) σ 8 [(0, .ref (ea E 0)), (1, .int x1), (2, .int x2), (3, .int x3)] [] := by
  intro n
  induction n with
  | zero => intro x1 x2 x3 hf; have hf : (none : Option _) = some _ := hf; cases hf
  | succ n ih => intro x1 x2 x3 hf; exact b_fX11_momentOf_8B σ C (fX11_momentOf_8 σ n) ih x1 x2 x3 hf
def fX11_momentOf (σ : St) (a0 : Int32) : Option Int32 :=
fX11_momentOf_8 σ FU a0 0 (144 * a0)
set_option maxHeartbeats 4000000 in
theorem c_fX11_momentOf {E : Ev} {l : Launch} (hj : jW false E) (σ : St) (sz : Nat) (a0 : Int32) {rr : Int32} (hf : fX11_momentOf σ a0 = some rr) : Met l yX11_momentOf (Cond.code yX11_momentOf cX11_momentOf 4 (some .int) :: gT) (rmD 2) (va_Pc [.ref (ea E 0), .int a0] (preW false E σ sz)) (QI false E rr σ sz) 0 0 (aW false E sz) := by
  refine r_entry (QI false E rr σ) hj (by decide) [.ref (ea E 0), .int a0] (Nat.le_of_ble_eq_true rfl) (fun p e s m args below meth c C => ?_)
  intro H locs ls hP hS hl
  have hl : lv_has ls 4 [(0, .ref (ea E 0)), (1, .int a0)] := hl
  obtain ⟨hx, hb, hr, hml, hown, hts, hlocks, hK, hX, hj⟩ := id C
  unfold fX11_momentOf at hf
  refine lv_iconst (v := 0) hx hb dX11_momentOf_0 (by decide) ?_
  refine lv_istore_n (lv' := [(2, .int 0), (0, .ref (ea E 0)), (1, .int a0)]) hx hb dX11_momentOf_1 rfl hl (by decide) rfl (fun ls hl => ?_)
  refine lv_sipush (v := 144) hx hb dX11_momentOf_2 (by decide) ?_
  refine lv_iload_n hx hb dX11_momentOf_5 rfl (lv_at hl 2 rfl) ?_
  refine lv_imul hx hb dX11_momentOf_6 ?_
  refine lv_istore_n (lv' := [(3, .int (144 * a0)), (2, .int 0), (0, .ref (ea E 0)), (1, .int a0)]) hx hb dX11_momentOf_7 rfl hl (by decide) rfl (fun ls hl => ?_)
  exact b_fX11_momentOf_8 σ C FU a0 0 (144 * a0) hf H locs ls hP hS (lv_sub hl [2, 3, 1, 0] rfl)
def fX11_weightOf_10B (σ : St) (rec10 : Int32 → Int32 → Int32 → Option Int32) (x1 : Int32) (x2 : Int32) (x3 : Int32) : Option Int32 :=
(if ((144 * x1) + 144) ≤ x3 then
some x2
else
(rdK 288 (σ 5) x3 fun v2 =>
(rdK 288 (σ 6) x3 fun v4 =>
rec10 x1 ((x2 + (10 * v2)) + v4) (x3 + 1))))
set_option maxHeartbeats 4000000 in
theorem b_fX11_weightOf_10B {E : Ev} {l : Launch} {p : Program} {e : Env} {s : State} {m : MethodId} {args : Array Value} {below : List Frame} {meth : Method} {c : Code} (σ : St) (C : CX false E RX11 cX11_weightOf 4 (some .int) p s m args meth c) {rr : Int32} (rec10 : Int32 → Int32 → Int32 → Option Int32) (hr10 : ∀  (x1 : Int32) (x2 : Int32) (x3 : Int32), rec10 x1 x2 x3 = some rr → GW false l (rmD 1) E 4 p e s m args below meth c (MQ below (QI false E rr σ s.heap.size) args s 0 0 (aW false E s.heap.size)) σ 10 [(0, .ref (ea E 0)), (1, .int x1), (2, .int x2), (3, .int x3)] []) : ∀  (x1 : Int32) (x2 : Int32) (x3 : Int32), fX11_weightOf_10B σ rec10 x1 x2 x3 = some rr → GW false l (rmD 1) E 4 p e s m args below meth c (MQ below (QI false E rr σ s.heap.size) args s 0 0 (aW false E s.heap.size)) σ 10 [(0, .ref (ea E 0)), (1, .int x1), (2, .int x2), (3, .int x3)] [] := by
  intro x1 x2 x3 hf H locs ls hP hS hl
  obtain ⟨hx, hb, hr, hml, hown, hts, hlocks, hK, hX, hj⟩ := id C
  unfold fX11_weightOf_10B at hf
  refine lv_iload_n hx hb dX11_weightOf_10 rfl (lv_at hl 3 rfl) ?_
  refine lv_sipush (v := 144) hx hb dX11_weightOf_11 (by decide) ?_
  refine lv_iload_n hx hb dX11_weightOf_14 rfl (lv_at hl 1 rfl) ?_
  refine lv_imul hx hb dX11_weightOf_15 ?_
  refine lv_sipush (v := 144) hx hb dX11_weightOf_16 (by decide) ?_
  refine lv_iadd hx hb dX11_weightOf_19 ?_
  refine lv_icmp_ge (tgt := 48) hx hb dX11_weightOf_20 (by decide) (fun c1 => ?_) (fun c1 => ?_)
  · replace hf := it_t c1 hf
    refine lv_iload_n hx hb dX11_weightOf_48 rfl (lv_at hl 2 rfl) ?_
    cases hf
    exact r_iret C hP hS dX11_weightOf_49
  · replace hf := it_f c1 hf
    refine lv_iload_n hx hb dX11_weightOf_23 rfl (lv_at hl 2 rfl) ?_
    refine lv_bipush (v := 10) hx hb dX11_weightOf_24 (by decide) ?_
    refine lv_aload_n hx hb dX11_weightOf_26 rfl (lv_at hl 0 rfl) ?_
    refine r_get (k := 7) (v := .ref (ea E 5)) C hP oM_0 rfl iX11 (by decide) wm_t1026 rfl rfl dX11_weightOf_27 ?_
    refine lv_iload_n hx hb dX11_weightOf_30 rfl (lv_at hl 3 rfl) ?_
    have h3 := (rdK_e hf).1
    refine r_ald C hP aM_5 h3 dX11_weightOf_31 ?_
    refine lv_topi (fun v2 ev2 => ?_)
    replace hf := rdK_n ev2 hf
    refine lv_imul hx hb dX11_weightOf_32 ?_
    refine lv_iadd hx hb dX11_weightOf_33 ?_
    refine lv_aload_n hx hb dX11_weightOf_34 rfl (lv_at hl 0 rfl) ?_
    refine r_get (k := 8) (v := .ref (ea E 6)) C hP oM_0 rfl iX11 (by decide) wm_t1027 rfl rfl dX11_weightOf_35 ?_
    refine lv_iload_n hx hb dX11_weightOf_38 rfl (lv_at hl 3 rfl) ?_
    have h5 := (rdK_e hf).1
    refine r_ald C hP aM_6 h5 dX11_weightOf_39 ?_
    refine lv_topi (fun v4 ev4 => ?_)
    replace hf := rdK_n ev4 hf
    refine lv_iadd hx hb dX11_weightOf_40 ?_
    refine lv_istore_n (lv' := [(2, .int ((x2 + (10 * v2)) + v4)), (0, .ref (ea E 0)), (1, .int x1), (3, .int x3)]) hx hb dX11_weightOf_41 rfl hl (by decide) rfl (fun ls hl => ?_)
    refine lv_iinc (v := (x3 + 1)) (lv' := [(3, .int (x3 + 1)), (2, .int ((x2 + (10 * v2)) + v4)), (0, .ref (ea E 0)), (1, .int x1)]) hx hb dX11_weightOf_42 hl (k := 3) rfl rfl (by decide) rfl (fun ls hl => ?_)
    refine lv_goto (tgt := 10) hx hb dX11_weightOf_45 (by decide) ?_
    exact hr10 x1 ((x2 + (10 * v2)) + v4) (x3 + 1) hf H locs ls hP hS (lv_sub hl [2, 3, 1, 0] rfl)
def fX11_weightOf_10 (σ : St) : Nat → Int32 → Int32 → Int32 → Option Int32
  | 0 => fun _ _ _ => none
  | n + 1 => fun x1 x2 x3 => fX11_weightOf_10B σ (fX11_weightOf_10 σ n) x1 x2 x3
theorem b_fX11_weightOf_10 {E : Ev} {l : Launch} {p : Program} {e : Env} {s : State} {m : MethodId} {args : Array Value} {below : List Frame} {meth : Method} {c : Code} (σ : St) (C : CX false E RX11 cX11_weightOf 4 (some .int) p s m args meth c) {rr : Int32} : ∀ (n : Nat) (x1 : Int32) (x2 : Int32) (x3 : Int32), fX11_weightOf_10 σ n x1 x2 x3 = some rr → GW false l (rmD 1) E 4 p e s m args below meth c (MQ below (QI false E rr σ s.heap.size) args s 0 0 (aW false E s.heap.size)) σ 10 [(0, .ref (ea E 0)), (1, .int x1), (2, .int x2), (3, .int x3)] [] := by
  intro n
  induction n with
  | zero => intro x1 x2 x3 hf; have hf : (none : Option _) = some _ := hf; cases hf
  | succ n ih => intro x1 x2 x3 hf; exact b_fX11_weightOf_10B σ C (fX11_weightOf_10 σ n) ih x1 x2 x3 hf
def fX11_weightOf (σ : St) (a0 : Int32) : Option Int32 :=
fX11_weightOf_10 σ FU a0 2000 (144 * a0)
set_option maxHeartbeats 4000000 in
theorem c_fX11_weightOf {E : Ev} {l : Launch} (hj : jW false E) (σ : St) (sz : Nat) (a0 : Int32) {rr : Int32} (hf : fX11_weightOf σ a0 = some rr) : Met l yX11_weightOf (Cond.code yX11_weightOf cX11_weightOf 4 (some .int) :: gT) (rmD 1) (va_Pc [.ref (ea E 0), .int a0] (preW false E σ sz)) (QI false E rr σ sz) 0 0 (aW false E sz) := by
  refine r_entry (QI false E rr σ) hj (by decide) [.ref (ea E 0), .int a0] (Nat.le_of_ble_eq_true rfl) (fun p e s m args below meth c C => ?_)
  intro H locs ls hP hS hl
  have hl : lv_has ls 4 [(0, .ref (ea E 0)), (1, .int a0)] := hl
  obtain ⟨hx, hb, hr, hml, hown, hts, hlocks, hK, hX, hj⟩ := id C
  unfold fX11_weightOf at hf
  refine lv_sipush (v := 2000) hx hb dX11_weightOf_0 (by decide) ?_
  refine lv_istore_n (lv' := [(2, .int 2000), (0, .ref (ea E 0)), (1, .int a0)]) hx hb dX11_weightOf_3 rfl hl (by decide) rfl (fun ls hl => ?_)
  refine lv_sipush (v := 144) hx hb dX11_weightOf_4 (by decide) ?_
  refine lv_iload_n hx hb dX11_weightOf_7 rfl (lv_at hl 2 rfl) ?_
  refine lv_imul hx hb dX11_weightOf_8 ?_
  refine lv_istore_n (lv' := [(3, .int (144 * a0)), (2, .int 2000), (0, .ref (ea E 0)), (1, .int a0)]) hx hb dX11_weightOf_9 rfl hl (by decide) rfl (fun ls hl => ?_)
  exact b_fX11_weightOf_10 σ C FU a0 2000 (144 * a0) hf H locs ls hP hS (lv_sub hl [2, 3, 1, 0] rfl)
def fX11_armAt (σ : St) (a0 : Int32) : Option Int32 :=
(if a0 = 60 then
(rdK 7 (σ 27) 6 fun v8 =>
some (10 * v8))
else
(rdK 7 (σ 27) (a0 / 10) fun v2 =>
(rdK 7 (σ 27) ((a0 / 10) + 1) fun v4 =>
(rdK 7 (σ 27) (a0 / 10) fun v6 =>
some ((10 * v2) + ((v4 - v6) * (a0 - a0 / 10 * 10)))))))
set_option maxHeartbeats 4000000 in
theorem c_fX11_armAt {E : Ev} {l : Launch} (hj : jW false E) (σ : St) (sz : Nat) (a0 : Int32) {rr : Int32} (hf : fX11_armAt σ a0 = some rr) : Met l yX11_armAt (Cond.code yX11_armAt cX11_armAt 3 (some .int) :: gT) (rmD 1) (va_Pc [.ref (ea E 0), .int a0] (preW false E σ sz)) (QI false E rr σ sz) 0 0 (aW false E sz) := by
  refine r_entry (QI false E rr σ) hj (by decide) [.ref (ea E 0), .int a0] (Nat.le_of_ble_eq_true rfl) (fun p e s m args below meth c C => ?_)
  intro H locs ls hP hS hl
  have hl : lv_has ls 3 [(0, .ref (ea E 0)), (1, .int a0)] := hl
  obtain ⟨hx, hb, hr, hml, hown, hts, hlocks, hK, hX, hj⟩ := id C
  unfold fX11_armAt at hf
  refine lv_iload_n hx hb dX11_armAt_0 rfl (lv_at hl 1 rfl) ?_
  refine lv_bipush (v := 10) hx hb dX11_armAt_1 (by decide) ?_
  refine lv_idiv hx hb dX11_armAt_3 (by decide) ?_
  refine lv_istore_n (lv' := [(2, .int (a0 / 10)), (0, .ref (ea E 0)), (1, .int a0)]) hx hb dX11_armAt_4 rfl hl (by decide) rfl (fun ls hl => ?_)
  refine lv_iload_n hx hb dX11_armAt_5 rfl (lv_at hl 2 rfl) ?_
  refine lv_bipush (v := 60) hx hb dX11_armAt_6 (by decide) ?_
  refine lv_icmp_ne (tgt := 24) hx hb dX11_armAt_8 (by decide) (fun c1 => ?_) (fun c1 => ?_)
  · replace hf := it_f c1 hf
    refine lv_bipush (v := 10) hx hb dX11_armAt_24 (by decide) ?_
    refine lv_aload_n hx hb dX11_armAt_26 rfl (lv_at hl 1 rfl) ?_
    refine r_get (k := 44) (v := .ref (ea E 27)) C hP oM_0 rfl iX11 (by decide) wm_t1063 rfl rfl dX11_armAt_27 ?_
    refine lv_iload_n hx hb dX11_armAt_30 rfl (lv_at hl 0 rfl) ?_
    have h3 := (rdK_e hf).1
    refine r_ald C hP aM_27 h3 dX11_armAt_31 ?_
    refine lv_topi (fun v2 ev2 => ?_)
    replace hf := rdK_n ev2 hf
    refine lv_imul hx hb dX11_armAt_32 ?_
    refine lv_aload_n hx hb dX11_armAt_33 rfl (lv_at hl 1 rfl) ?_
    refine r_get (k := 44) (v := .ref (ea E 27)) C hP oM_0 rfl iX11 (by decide) wm_t1063 rfl rfl dX11_armAt_34 ?_
    refine lv_iload_n hx hb dX11_armAt_37 rfl (lv_at hl 0 rfl) ?_
    refine lv_iconst (v := 1) hx hb dX11_armAt_38 (by decide) ?_
    refine lv_iadd hx hb dX11_armAt_39 ?_
    have h5 := (rdK_e hf).1
    refine r_ald C hP aM_27 h5 dX11_armAt_40 ?_
    refine lv_topi (fun v4 ev4 => ?_)
    replace hf := rdK_n ev4 hf
    refine lv_aload_n hx hb dX11_armAt_41 rfl (lv_at hl 1 rfl) ?_
    refine r_get (k := 44) (v := .ref (ea E 27)) C hP oM_0 rfl iX11 (by decide) wm_t1063 rfl rfl dX11_armAt_42 ?_
    refine lv_iload_n hx hb dX11_armAt_45 rfl (lv_at hl 0 rfl) ?_
    have h7 := (rdK_e hf).1
    refine r_ald C hP aM_27 h7 dX11_armAt_46 ?_
    refine lv_topi (fun v6 ev6 => ?_)
    replace hf := rdK_n ev6 hf
    refine lv_isub hx hb dX11_armAt_47 ?_
    refine lv_iload_n hx hb dX11_armAt_48 rfl (lv_at hl 2 rfl) ?_
    refine lv_bipush (v := 10) hx hb dX11_armAt_49 (by decide) ?_
    refine lv_irem hx hb dX11_armAt_51 (by decide) ?_
    refine lv_imul hx hb dX11_armAt_52 ?_
    refine lv_iadd hx hb dX11_armAt_53 ?_
    cases hf
    exact r_iret C hP hS dX11_armAt_54
  · replace hf := it_t c1 hf
    refine lv_bipush (v := 10) hx hb dX11_armAt_11 (by decide) ?_
    refine lv_aload_n hx hb dX11_armAt_13 rfl (lv_at hl 1 rfl) ?_
    refine r_get (k := 44) (v := .ref (ea E 27)) C hP oM_0 rfl iX11 (by decide) wm_t1063 rfl rfl dX11_armAt_14 ?_
    refine lv_bipush (v := 6) hx hb dX11_armAt_17 (by decide) ?_
    have h9 := (rdK_e hf).1
    refine r_ald C hP aM_27 h9 dX11_armAt_19 ?_
    refine lv_topi (fun v8 ev8 => ?_)
    replace hf := rdK_n ev8 hf
    refine lv_imul hx hb dX11_armAt_20 ?_
    refine lv_goto (tgt := 54) hx hb dX11_armAt_21 (by decide) ?_
    cases hf
    exact r_iret C hP hS dX11_armAt_54
def fX11_leanOf_19B (σ : St) (rec19 : Int32 → Int64 → Int32 → Option Int32) (x2 : Int32) (x3 : Int64) (x5 : Int32) : Option Int32 :=
(if 60 < x5 then
some (-1)
else
(cq (fX11_armAt σ x5) fun r2 =>
(if (lg_cmp (((r2 : Int32).toInt64) * ((x2 : Int32).toInt64)) x3) < 0 then
rec19 x2 x3 (x5 + 1)
else
some x5)))
set_option maxHeartbeats 4000000 in
theorem b_fX11_leanOf_19B {E : Ev} {l : Launch} {p : Program} {e : Env} {s : State} {m : MethodId} {args : Array Value} {below : List Frame} {meth : Method} {c : Code} (σ : St) (C : CX false E RX11 cX11_leanOf 6 (some .int) p s m args meth c) {rr : Int32} (rec19 : Int32 → Int64 → Int32 → Option Int32) (hr19 : ∀  (x2 : Int32) (x3 : Int64) (x5 : Int32), rec19 x2 x3 x5 = some rr → GW false l (rmD 2) E 6 p e s m args below meth c (MQ below (QI false E rr σ s.heap.size) args s 0 0 (aW false E s.heap.size)) σ 19 [(0, .ref (ea E 0)), (2, .int x2), (3, .long x3), (5, .int x5)] []) : ∀  (x2 : Int32) (x3 : Int64) (x5 : Int32), fX11_leanOf_19B σ rec19 x2 x3 x5 = some rr → GW false l (rmD 2) E 6 p e s m args below meth c (MQ below (QI false E rr σ s.heap.size) args s 0 0 (aW false E s.heap.size)) σ 19 [(0, .ref (ea E 0)), (2, .int x2), (3, .long x3), (5, .int x5)] [] := by
  intro x2 x3 x5 hf H locs ls hP hS hl
  obtain ⟨hx, hb, hr, hml, hown, hts, hlocks, hK, hX, hj⟩ := id C
  unfold fX11_leanOf_19B at hf
  refine lv_iload hx hb dX11_leanOf_19 (lv_at hl 3 rfl) ?_
  refine lv_bipush (v := 60) hx hb dX11_leanOf_21 (by decide) ?_
  refine lv_icmp_gt (tgt := 50) hx hb dX11_leanOf_23 (by decide) (fun c1 => ?_) (fun c1 => ?_)
  · replace hf := it_t c1 hf
    refine lv_iconst (v := (-1)) hx hb dX11_leanOf_50 (by decide) ?_
    cases hf
    exact r_iret C hP hS dX11_leanOf_51
  · replace hf := it_f c1 hf
    refine lv_aload_n hx hb dX11_leanOf_26 rfl (lv_at hl 0 rfl) ?_
    refine lv_iload hx hb dX11_leanOf_27 (lv_at hl 3 rfl) ?_
    obtain ⟨r2, hc3, hf⟩ := cq_e hf
    refine r_cVi (n := 1) (As := [.int x5]) (rest := []) C (c_fX11_armAt hj σ H.size x5 hc3) oM_0 rfl gv_RX11_317 (by decide +kernel) ⟨rfl, rfl, by decide, by decide⟩ rfl rfl (Nat.le_of_ble_eq_true rfl) dX11_leanOf_29 hP hS hl.1 (fun H locs hP hS => ?_)
    refine lv_i2l (v := (r2 : Int32).toInt64) hx hb dX11_leanOf_32 rfl ?_
    refine lv_iload_n hx hb dX11_leanOf_33 rfl (lv_at hl 1 rfl) ?_
    refine lv_i2l (v := (x2 : Int32).toInt64) hx hb dX11_leanOf_34 rfl ?_
    refine lv_lmul hx hb dX11_leanOf_35 ?_
    refine lv_lload_n hx hb dX11_leanOf_36 rfl (lv_at hl 2 rfl) ?_
    refine W.lcmp hx hb dX11_leanOf_37 ?_
    refine lv_if_lt (tgt := 44) hx hb dX11_leanOf_38 (by decide) (fun c4 => ?_) (fun c4 => ?_)
    · replace hf := it_t c4 hf
      refine lv_iinc (v := (x5 + 1)) (lv' := [(5, .int (x5 + 1)), (0, .ref (ea E 0)), (2, .int x2), (3, .long x3)]) hx hb dX11_leanOf_44 hl (k := 3) rfl rfl (by decide) rfl (fun ls hl => ?_)
      refine lv_goto (tgt := 19) hx hb dX11_leanOf_47 (by decide) ?_
      exact hr19 x2 x3 (x5 + 1) hf H locs ls hP hS (lv_sub hl [1, 2, 3, 0] rfl)
    · replace hf := it_f c4 hf
      refine lv_iload hx hb dX11_leanOf_41 (lv_at hl 3 rfl) ?_
      cases hf
      exact r_iret C hP hS dX11_leanOf_43
def fX11_leanOf_19 (σ : St) : Nat → Int32 → Int64 → Int32 → Option Int32
  | 0 => fun _ _ _ => none
  | n + 1 => fun x2 x3 x5 => fX11_leanOf_19B σ (fX11_leanOf_19 σ n) x2 x3 x5
theorem b_fX11_leanOf_19 {E : Ev} {l : Launch} {p : Program} {e : Env} {s : State} {m : MethodId} {args : Array Value} {below : List Frame} {meth : Method} {c : Code} (σ : St) (C : CX false E RX11 cX11_leanOf 6 (some .int) p s m args meth c) {rr : Int32} : ∀ (n : Nat) (x2 : Int32) (x3 : Int64) (x5 : Int32), fX11_leanOf_19 σ n x2 x3 x5 = some rr → GW false l (rmD 2) E 6 p e s m args below meth c (MQ below (QI false E rr σ s.heap.size) args s 0 0 (aW false E s.heap.size)) σ 19 [(0, .ref (ea E 0)), (2, .int x2), (3, .long x3), (5, .int x5)] [] := by
  intro n
  induction n with
  | zero => intro x2 x3 x5 hf; have hf : (none : Option _) = some _ := hf; cases hf
  | succ n ih => intro x2 x3 x5 hf; exact b_fX11_leanOf_19B σ C (fX11_leanOf_19 σ n) ih x2 x3 x5 hf
def fX11_leanOf (σ : St) (a0 : Int32) (a1 : Int32) : Option Int32 :=
(if 0 ≤ a0 then
fX11_leanOf_19 σ FU a1 (200 * ((a0 : Int32).toInt64)) 0
else
fX11_leanOf_19 σ FU a1 (200 * (((-a0) : Int32).toInt64)) 0)
set_option maxHeartbeats 4000000 in
theorem c_fX11_leanOf {E : Ev} {l : Launch} (hj : jW false E) (σ : St) (sz : Nat) (a0 : Int32) (a1 : Int32) {rr : Int32} (hf : fX11_leanOf σ a0 a1 = some rr) : Met l yX11_leanOf (Cond.code yX11_leanOf cX11_leanOf 6 (some .int) :: gT) (rmD 2) (va_Pc [.ref (ea E 0), .int a0, .int a1] (preW false E σ sz)) (QI false E rr σ sz) 0 0 (aW false E sz) := by
  refine r_entry (QI false E rr σ) hj (by decide) [.ref (ea E 0), .int a0, .int a1] (Nat.le_of_ble_eq_true rfl) (fun p e s m args below meth c C => ?_)
  intro H locs ls hP hS hl
  have hl : lv_has ls 6 [(0, .ref (ea E 0)), (1, .int a0), (2, .int a1)] := hl
  obtain ⟨hx, hb, hr, hml, hown, hts, hlocks, hK, hX, hj⟩ := id C
  unfold fX11_leanOf at hf
  refine lv_ldc2 (v := 200) hx hb hown (hts _ wm_t1434) dX11_leanOf_0 ?_
  refine lv_iload_n hx hb dX11_leanOf_3 rfl (lv_at hl 1 rfl) ?_
  refine lv_if_ge (tgt := 12) hx hb dX11_leanOf_4 (by decide) (fun c1 => ?_) (fun c1 => ?_)
  · replace hf := it_t c1 hf
    refine lv_iload_n hx hb dX11_leanOf_12 rfl (lv_at hl 1 rfl) ?_
    refine lv_i2l (v := (a0 : Int32).toInt64) hx hb dX11_leanOf_13 rfl ?_
    refine lv_lmul hx hb dX11_leanOf_14 ?_
    refine lv_lstore_n (lv' := [(3, .long (200 * ((a0 : Int32).toInt64))), (0, .ref (ea E 0)), (1, .int a0), (2, .int a1)]) hx hb dX11_leanOf_15 rfl hl (by decide) rfl (fun ls hl => ?_)
    refine lv_iconst (v := 0) hx hb dX11_leanOf_16 (by decide) ?_
    refine lv_istore (lv' := [(5, .int 0), (3, .long (200 * ((a0 : Int32).toInt64))), (0, .ref (ea E 0)), (1, .int a0), (2, .int a1)]) hx hb dX11_leanOf_17 hl (by decide) rfl (fun ls hl => ?_)
    exact b_fX11_leanOf_19 σ C FU a1 (200 * ((a0 : Int32).toInt64)) 0 hf H locs ls hP hS (lv_sub hl [2, 4, 1, 0] rfl)
  · replace hf := it_f c1 hf
    refine lv_iload_n hx hb dX11_leanOf_7 rfl (lv_at hl 1 rfl) ?_
    refine lv_ineg hx hb dX11_leanOf_8 ?_
    refine lv_goto (tgt := 13) hx hb dX11_leanOf_9 (by decide) ?_
    refine lv_i2l (v := ((-a0) : Int32).toInt64) hx hb dX11_leanOf_13 rfl ?_
    refine lv_lmul hx hb dX11_leanOf_14 ?_
    refine lv_lstore_n (lv' := [(3, .long (200 * (((-a0) : Int32).toInt64))), (0, .ref (ea E 0)), (1, .int a0), (2, .int a1)]) hx hb dX11_leanOf_15 rfl hl (by decide) rfl (fun ls hl => ?_)
    refine lv_iconst (v := 0) hx hb dX11_leanOf_16 (by decide) ?_
    refine lv_istore (lv' := [(5, .int 0), (3, .long (200 * (((-a0) : Int32).toInt64))), (0, .ref (ea E 0)), (1, .int a0), (2, .int a1)]) hx hb dX11_leanOf_17 hl (by decide) rfl (fun ls hl => ?_)
    exact b_fX11_leanOf_19 σ C FU a1 (200 * (((-a0) : Int32).toInt64)) 0 hf H locs ls hP hS (lv_sub hl [2, 4, 1, 0] rfl)
def fX11_flows_88 (σ : St) (x6 : Int32) (x7 : Int32) (x8 : Int32) (x9 : Int32) (y0 : Int32) (y1 : Int32) (y2 : Int32) : Option St :=
(if y2 ≤ (y1 + y0) then
(rdK 288 (σ 5) ((x6 + x8) - 1) fun v2 =>
(wrK 288 σ 5 (x7 + x9) v2 fun σ4 =>
(rdK 288 (σ4 6) ((x6 + x8) - 1) fun v6 =>
(wrK 288 σ4 6 (x7 + x9) v6 fun σ8 =>
(rdK 288 (σ8 7) ((x6 + x8) - 1) fun v10 =>
(wrK 288 σ8 7 (x7 + x9) v10 fun σ12 =>
(wrK 288 σ12 8 (x7 + x9) (vp_nar .boolean 1) fun σ14 =>
(wrK 288 σ14 5 ((x6 + x8) - 1) 0 fun σ16 =>
(wrK 288 σ16 6 ((x6 + x8) - 1) 0 fun σ18 =>
(wrK 288 σ18 7 ((x6 + x8) - 1) 0 fun σ20 =>
(wrK 288 σ20 8 ((x6 + x8) - 1) (vp_nar .boolean 0) fun σ22 =>
some σ22)))))))))))
else
some σ)
set_option maxHeartbeats 4000000 in
theorem b_fX11_flows_88 {E : Ev} {l : Launch} {p : Program} {e : Env} {s : State} {m : MethodId} {args : Array Value} {below : List Frame} {meth : Method} {c : Code} (C : CX false E RX11 cX11_flows 10 none p s m args meth c) {sr : St} : ∀ (σ : St) (x6 : Int32) (x7 : Int32) (x8 : Int32) (x9 : Int32) (y0 : Int32) (y1 : Int32) (y2 : Int32), fX11_flows_88 σ x6 x7 x8 x9 y0 y1 y2 = some sr → GW false l (rmD 2) E 10 p e s m args below meth c (MQ below (QV false E sr s.heap.size) args s 0 0 (aW false E s.heap.size)) σ 88 [(0, .ref (ea E 0)), (6, .int x6), (7, .int x7), (8, .int x8), (9, .int x9)] [.int y0, .int y1, .int y2] := by
  intro σ x6 x7 x8 x9 y0 y1 y2 hf H locs ls hP hS hl
  obtain ⟨hx, hb, hr, hml, hown, hts, hlocks, hK, hX, hj⟩ := id C
  unfold fX11_flows_88 at hf
  refine lv_iadd hx hb dX11_flows_88 ?_
  refine lv_icmp_le (tgt := 93) hx hb dX11_flows_89 (by decide) (fun c1 => ?_) (fun c1 => ?_)
  · replace hf := it_t c1 hf
    refine lv_aload_n hx hb dX11_flows_93 rfl (lv_at hl 0 rfl) ?_
    refine r_get (k := 7) (v := .ref (ea E 5)) C hP oM_0 rfl iX11 (by decide) wm_t1026 rfl rfl dX11_flows_94 ?_
    refine lv_iload hx hb dX11_flows_97 (lv_at hl 2 rfl) ?_
    refine lv_iload hx hb dX11_flows_99 (lv_at hl 4 rfl) ?_
    refine lv_iadd hx hb dX11_flows_101 ?_
    refine lv_aload_n hx hb dX11_flows_102 rfl (lv_at hl 0 rfl) ?_
    refine r_get (k := 7) (v := .ref (ea E 5)) C hP oM_0 rfl iX11 (by decide) wm_t1026 rfl rfl dX11_flows_103 ?_
    refine lv_iload hx hb dX11_flows_106 (lv_at hl 1 rfl) ?_
    refine lv_iload hx hb dX11_flows_108 (lv_at hl 3 rfl) ?_
    refine lv_iadd hx hb dX11_flows_110 ?_
    refine lv_iconst (v := 1) hx hb dX11_flows_111 (by decide) ?_
    refine lv_isub hx hb dX11_flows_112 ?_
    have h3 := (rdK_e hf).1
    refine r_ald C hP aM_5 h3 dX11_flows_113 ?_
    refine lv_topi (fun v2 ev2 => ?_)
    replace hf := rdK_n ev2 hf
    obtain ⟨h5, σ4, eσ4, hf⟩ := wrK_e hf
    refine r_ast C hP hS aM_5 h5 dX11_flows_114 (fun H locs hP hS => ?_)
    rw [← eσ4] at hP
    refine lv_aload_n hx hb dX11_flows_115 rfl (lv_at hl 0 rfl) ?_
    refine r_get (k := 8) (v := .ref (ea E 6)) C hP oM_0 rfl iX11 (by decide) wm_t1027 rfl rfl dX11_flows_116 ?_
    refine lv_iload hx hb dX11_flows_119 (lv_at hl 2 rfl) ?_
    refine lv_iload hx hb dX11_flows_121 (lv_at hl 4 rfl) ?_
    refine lv_iadd hx hb dX11_flows_123 ?_
    refine lv_aload_n hx hb dX11_flows_124 rfl (lv_at hl 0 rfl) ?_
    refine r_get (k := 8) (v := .ref (ea E 6)) C hP oM_0 rfl iX11 (by decide) wm_t1027 rfl rfl dX11_flows_125 ?_
    refine lv_iload hx hb dX11_flows_128 (lv_at hl 1 rfl) ?_
    refine lv_iload hx hb dX11_flows_130 (lv_at hl 3 rfl) ?_
    refine lv_iadd hx hb dX11_flows_132 ?_
    refine lv_iconst (v := 1) hx hb dX11_flows_133 (by decide) ?_
    refine lv_isub hx hb dX11_flows_134 ?_
    have h7 := (rdK_e hf).1
    refine r_ald C hP aM_6 h7 dX11_flows_135 ?_
    refine lv_topi (fun v6 ev6 => ?_)
    replace hf := rdK_n ev6 hf
    obtain ⟨h9, σ8, eσ8, hf⟩ := wrK_e hf
    refine r_ast C hP hS aM_6 h9 dX11_flows_136 (fun H locs hP hS => ?_)
    rw [← eσ8] at hP
    refine lv_aload_n hx hb dX11_flows_137 rfl (lv_at hl 0 rfl) ?_
    refine r_get (k := 9) (v := .ref (ea E 7)) C hP oM_0 rfl iX11 (by decide) wm_t1028 rfl rfl dX11_flows_138 ?_
    refine lv_iload hx hb dX11_flows_141 (lv_at hl 2 rfl) ?_
    refine lv_iload hx hb dX11_flows_143 (lv_at hl 4 rfl) ?_
    refine lv_iadd hx hb dX11_flows_145 ?_
    refine lv_aload_n hx hb dX11_flows_146 rfl (lv_at hl 0 rfl) ?_
    refine r_get (k := 9) (v := .ref (ea E 7)) C hP oM_0 rfl iX11 (by decide) wm_t1028 rfl rfl dX11_flows_147 ?_
    refine lv_iload hx hb dX11_flows_150 (lv_at hl 1 rfl) ?_
    refine lv_iload hx hb dX11_flows_152 (lv_at hl 3 rfl) ?_
    refine lv_iadd hx hb dX11_flows_154 ?_
    refine lv_iconst (v := 1) hx hb dX11_flows_155 (by decide) ?_
    refine lv_isub hx hb dX11_flows_156 ?_
    have h11 := (rdK_e hf).1
    refine r_ald C hP aM_7 h11 dX11_flows_157 ?_
    refine lv_topi (fun v10 ev10 => ?_)
    replace hf := rdK_n ev10 hf
    obtain ⟨h13, σ12, eσ12, hf⟩ := wrK_e hf
    refine r_ast C hP hS aM_7 h13 dX11_flows_158 (fun H locs hP hS => ?_)
    rw [← eσ12] at hP
    refine lv_aload_n hx hb dX11_flows_159 rfl (lv_at hl 0 rfl) ?_
    refine r_get (k := 10) (v := .ref (ea E 8)) C hP oM_0 rfl iX11 (by decide) wm_t1029 rfl rfl dX11_flows_160 ?_
    refine lv_iload hx hb dX11_flows_163 (lv_at hl 2 rfl) ?_
    refine lv_iload hx hb dX11_flows_165 (lv_at hl 4 rfl) ?_
    refine lv_iadd hx hb dX11_flows_167 ?_
    refine lv_iconst (v := 1) hx hb dX11_flows_168 (by decide) ?_
    obtain ⟨h15, σ14, eσ14, hf⟩ := wrK_e hf
    refine r_zast C hP hS aM_8 h15 dX11_flows_169 (fun H locs hP hS => ?_)
    rw [← eσ14] at hP
    refine lv_aload_n hx hb dX11_flows_170 rfl (lv_at hl 0 rfl) ?_
    refine r_get (k := 7) (v := .ref (ea E 5)) C hP oM_0 rfl iX11 (by decide) wm_t1026 rfl rfl dX11_flows_171 ?_
    refine lv_iload hx hb dX11_flows_174 (lv_at hl 1 rfl) ?_
    refine lv_iload hx hb dX11_flows_176 (lv_at hl 3 rfl) ?_
    refine lv_iadd hx hb dX11_flows_178 ?_
    refine lv_iconst (v := 1) hx hb dX11_flows_179 (by decide) ?_
    refine lv_isub hx hb dX11_flows_180 ?_
    refine lv_iconst (v := 0) hx hb dX11_flows_181 (by decide) ?_
    obtain ⟨h17, σ16, eσ16, hf⟩ := wrK_e hf
    refine r_ast C hP hS aM_5 h17 dX11_flows_182 (fun H locs hP hS => ?_)
    rw [← eσ16] at hP
    refine lv_aload_n hx hb dX11_flows_183 rfl (lv_at hl 0 rfl) ?_
    refine r_get (k := 8) (v := .ref (ea E 6)) C hP oM_0 rfl iX11 (by decide) wm_t1027 rfl rfl dX11_flows_184 ?_
    refine lv_iload hx hb dX11_flows_187 (lv_at hl 1 rfl) ?_
    refine lv_iload hx hb dX11_flows_189 (lv_at hl 3 rfl) ?_
    refine lv_iadd hx hb dX11_flows_191 ?_
    refine lv_iconst (v := 1) hx hb dX11_flows_192 (by decide) ?_
    refine lv_isub hx hb dX11_flows_193 ?_
    refine lv_iconst (v := 0) hx hb dX11_flows_194 (by decide) ?_
    obtain ⟨h19, σ18, eσ18, hf⟩ := wrK_e hf
    refine r_ast C hP hS aM_6 h19 dX11_flows_195 (fun H locs hP hS => ?_)
    rw [← eσ18] at hP
    refine lv_aload_n hx hb dX11_flows_196 rfl (lv_at hl 0 rfl) ?_
    refine r_get (k := 9) (v := .ref (ea E 7)) C hP oM_0 rfl iX11 (by decide) wm_t1028 rfl rfl dX11_flows_197 ?_
    refine lv_iload hx hb dX11_flows_200 (lv_at hl 1 rfl) ?_
    refine lv_iload hx hb dX11_flows_202 (lv_at hl 3 rfl) ?_
    refine lv_iadd hx hb dX11_flows_204 ?_
    refine lv_iconst (v := 1) hx hb dX11_flows_205 (by decide) ?_
    refine lv_isub hx hb dX11_flows_206 ?_
    refine lv_iconst (v := 0) hx hb dX11_flows_207 (by decide) ?_
    obtain ⟨h21, σ20, eσ20, hf⟩ := wrK_e hf
    refine r_ast C hP hS aM_7 h21 dX11_flows_208 (fun H locs hP hS => ?_)
    rw [← eσ20] at hP
    refine lv_aload_n hx hb dX11_flows_209 rfl (lv_at hl 0 rfl) ?_
    refine r_get (k := 10) (v := .ref (ea E 8)) C hP oM_0 rfl iX11 (by decide) wm_t1029 rfl rfl dX11_flows_210 ?_
    refine lv_iload hx hb dX11_flows_213 (lv_at hl 1 rfl) ?_
    refine lv_iload hx hb dX11_flows_215 (lv_at hl 3 rfl) ?_
    refine lv_iadd hx hb dX11_flows_217 ?_
    refine lv_iconst (v := 1) hx hb dX11_flows_218 (by decide) ?_
    refine lv_isub hx hb dX11_flows_219 ?_
    refine lv_iconst (v := 0) hx hb dX11_flows_220 (by decide) ?_
    obtain ⟨h23, σ22, eσ22, hf⟩ := wrK_e hf
    refine r_zast C hP hS aM_8 h23 dX11_flows_221 (fun H locs hP hS => ?_)
    rw [← eσ22] at hP
    cases hf
    exact r_vret C hP hS dX11_flows_222
  · replace hf := it_f c1 hf
    cases hf
    exact r_vret C hP hS dX11_flows_92
def fX11_flows (σ : St) (a0 : Int32) (a1 : Int32) (a2 : Int32) (a3 : Int32) (a4 : Int32) : Option St :=
(nm ((((144 * a0) + (36 * a1)) + (6 * a2)) + (6 * a3)) fun v1 =>
(cq (fX11_height σ (((144 * a0) + (36 * a1)) + (6 * a2))) fun r2 =>
(cq (fX11_height σ v1) fun r4 =>
(if r2 = 0 then
some σ
else
(if r4 = 6 then
some σ
else
(rdK 288 (σ 8) (((((144 * a0) + (36 * a1)) + (6 * a2)) + r2) - 1) fun v8 =>
(if v8 = 0 then
some σ
else
(if a4 < 10 then
fX11_flows_88 σ (((144 * a0) + (36 * a1)) + (6 * a2)) v1 r2 r4 0 (r2 - 1) r4
else
fX11_flows_88 σ (((144 * a0) + (36 * a1)) + (6 * a2)) v1 r2 r4 1 (r2 - 1) r4))))))))
set_option maxHeartbeats 4000000 in
theorem c_fX11_flows {E : Ev} {l : Launch} (hj : jW false E) (σ : St) (sz : Nat) (a0 : Int32) (a1 : Int32) (a2 : Int32) (a3 : Int32) (a4 : Int32) {sr : St} (hf : fX11_flows σ a0 a1 a2 a3 a4 = some sr) : Met l yX11_flows (Cond.code yX11_flows cX11_flows 10 none :: gT) (rmD 2) (va_Pc [.ref (ea E 0), .int a0, .int a1, .int a2, .int a3, .int a4] (preW false E σ sz)) (QV false E sr sz) 0 0 (aW false E sz) := by
  refine r_entry (QV false E sr) hj (by decide) [.ref (ea E 0), .int a0, .int a1, .int a2, .int a3, .int a4] (Nat.le_of_ble_eq_true rfl) (fun p e s m args below meth c C => ?_)
  intro H locs ls hP hS hl
  have hl : lv_has ls 10 [(0, .ref (ea E 0)), (1, .int a0), (2, .int a1), (3, .int a2), (4, .int a3), (5, .int a4)] := hl
  obtain ⟨hx, hb, hr, hml, hown, hts, hlocks, hK, hX, hj⟩ := id C
  unfold fX11_flows at hf
  refine lv_sipush (v := 144) hx hb dX11_flows_0 (by decide) ?_
  refine lv_iload_n hx hb dX11_flows_3 rfl (lv_at hl 1 rfl) ?_
  refine lv_imul hx hb dX11_flows_4 ?_
  refine lv_bipush (v := 36) hx hb dX11_flows_5 (by decide) ?_
  refine lv_iload_n hx hb dX11_flows_7 rfl (lv_at hl 2 rfl) ?_
  refine lv_imul hx hb dX11_flows_8 ?_
  refine lv_iadd hx hb dX11_flows_9 ?_
  refine lv_bipush (v := 6) hx hb dX11_flows_10 (by decide) ?_
  refine lv_iload_n hx hb dX11_flows_12 rfl (lv_at hl 3 rfl) ?_
  refine lv_imul hx hb dX11_flows_13 ?_
  refine lv_iadd hx hb dX11_flows_14 ?_
  refine lv_istore (lv' := [(6, .int (((144 * a0) + (36 * a1)) + (6 * a2))), (0, .ref (ea E 0)), (1, .int a0), (2, .int a1), (3, .int a2), (4, .int a3), (5, .int a4)]) hx hb dX11_flows_15 hl (by decide) rfl (fun ls hl => ?_)
  refine lv_iload hx hb dX11_flows_17 (lv_at hl 0 rfl) ?_
  refine lv_bipush (v := 6) hx hb dX11_flows_19 (by decide) ?_
  refine lv_iload hx hb dX11_flows_21 (lv_at hl 5 rfl) ?_
  refine lv_imul hx hb dX11_flows_23 ?_
  refine lv_iadd hx hb dX11_flows_24 ?_
  refine lv_topi (fun v1 ev1 => ?_)
  replace hf := nm_i ev1 hf
  refine lv_istore (lv' := [(7, .int v1), (6, .int (((144 * a0) + (36 * a1)) + (6 * a2))), (0, .ref (ea E 0)), (1, .int a0), (2, .int a1), (3, .int a2), (4, .int a3), (5, .int a4)]) hx hb dX11_flows_25 hl (by decide) rfl (fun ls hl => ?_)
  refine lv_aload_n hx hb dX11_flows_27 rfl (lv_at hl 2 rfl) ?_
  refine lv_iload hx hb dX11_flows_28 (lv_at hl 1 rfl) ?_
  obtain ⟨r2, hc3, hf⟩ := cq_e hf
  refine r_cVi (n := 1) (As := [.int (((144 * a0) + (36 * a1)) + (6 * a2))]) (rest := []) C (c_fX11_height hj σ H.size (((144 * a0) + (36 * a1)) + (6 * a2)) hc3) oM_0 rfl gv_RX11_320 (by decide +kernel) ⟨rfl, rfl, by decide, by decide⟩ rfl rfl (Nat.le_of_ble_eq_true rfl) dX11_flows_30 hP hS hl.1 (fun H locs hP hS => ?_)
  refine lv_istore (lv' := [(8, .int r2), (7, .int v1), (6, .int (((144 * a0) + (36 * a1)) + (6 * a2))), (0, .ref (ea E 0)), (1, .int a0), (2, .int a1), (3, .int a2), (4, .int a3), (5, .int a4)]) hx hb dX11_flows_33 hl (by decide) rfl (fun ls hl => ?_)
  refine lv_aload_n hx hb dX11_flows_35 rfl (lv_at hl 3 rfl) ?_
  refine lv_iload hx hb dX11_flows_36 (lv_at hl 1 rfl) ?_
  obtain ⟨r4, hc5, hf⟩ := cq_e hf
  refine r_cVi (n := 1) (As := [.int v1]) (rest := []) C (c_fX11_height hj σ H.size v1 hc5) oM_0 rfl gv_RX11_320 (by decide +kernel) ⟨rfl, rfl, by decide, by decide⟩ rfl rfl (Nat.le_of_ble_eq_true rfl) dX11_flows_38 hP hS hl.1 (fun H locs hP hS => ?_)
  refine lv_istore (lv' := [(9, .int r4), (8, .int r2), (7, .int v1), (6, .int (((144 * a0) + (36 * a1)) + (6 * a2))), (0, .ref (ea E 0)), (1, .int a0), (2, .int a1), (3, .int a2), (4, .int a3), (5, .int a4)]) hx hb dX11_flows_41 hl (by decide) rfl (fun ls hl => ?_)
  refine lv_iload hx hb dX11_flows_43 (lv_at hl 1 rfl) ?_
  refine lv_if_eq (tgt := 92) hx hb dX11_flows_45 (by decide) (fun c6 => ?_) (fun c6 => ?_)
  · replace hf := it_t c6 hf
    cases hf
    exact r_vret C hP hS dX11_flows_92
  · replace hf := it_f c6 hf
    refine lv_iload hx hb dX11_flows_48 (lv_at hl 0 rfl) ?_
    refine lv_bipush (v := 6) hx hb dX11_flows_50 (by decide) ?_
    refine lv_icmp_eq (tgt := 92) hx hb dX11_flows_52 (by decide) (fun c7 => ?_) (fun c7 => ?_)
    · replace hf := it_t c7 hf
      cases hf
      exact r_vret C hP hS dX11_flows_92
    · replace hf := it_f c7 hf
      refine lv_aload_n hx hb dX11_flows_55 rfl (lv_at hl 4 rfl) ?_
      refine r_get (k := 10) (v := .ref (ea E 8)) C hP oM_0 rfl iX11 (by decide) wm_t1029 rfl rfl dX11_flows_56 ?_
      refine lv_iload hx hb dX11_flows_59 (lv_at hl 3 rfl) ?_
      refine lv_iload hx hb dX11_flows_61 (lv_at hl 1 rfl) ?_
      refine lv_iadd hx hb dX11_flows_63 ?_
      refine lv_iconst (v := 1) hx hb dX11_flows_64 (by decide) ?_
      refine lv_isub hx hb dX11_flows_65 ?_
      have h9 := (rdK_e hf).1
      refine r_zald C hP aM_8 h9 dX11_flows_66 ?_
      refine lv_topi (fun v8 ev8 => ?_)
      replace hf := rdK_n ev8 hf
      refine lv_if_eq (tgt := 92) hx hb dX11_flows_67 (by decide) (fun c10 => ?_) (fun c10 => ?_)
      · replace hf := it_t c10 hf
        cases hf
        exact r_vret C hP hS dX11_flows_92
      · replace hf := it_f c10 hf
        refine lv_iload hx hb dX11_flows_70 (lv_at hl 0 rfl) ?_
        refine lv_iload hx hb dX11_flows_72 (lv_at hl 1 rfl) ?_
        refine lv_iconst (v := 1) hx hb dX11_flows_74 (by decide) ?_
        refine lv_isub hx hb dX11_flows_75 ?_
        refine lv_iload hx hb dX11_flows_76 (lv_at hl 9 rfl) ?_
        refine lv_bipush (v := 10) hx hb dX11_flows_78 (by decide) ?_
        refine lv_icmp_lt (tgt := 87) hx hb dX11_flows_80 (by decide) (fun c11 => ?_) (fun c11 => ?_)
        · replace hf := it_t c11 hf
          refine lv_iconst (v := 0) hx hb dX11_flows_87 (by decide) ?_
          exact b_fX11_flows_88 C σ (((144 * a0) + (36 * a1)) + (6 * a2)) v1 r2 r4 0 (r2 - 1) r4 hf H locs ls hP hS (lv_sub hl [4, 3, 2, 1, 0] rfl)
        · replace hf := it_f c11 hf
          refine lv_iconst (v := 1) hx hb dX11_flows_83 (by decide) ?_
          refine lv_goto (tgt := 88) hx hb dX11_flows_84 (by decide) ?_
          exact b_fX11_flows_88 C σ (((144 * a0) + (36 * a1)) + (6 * a2)) v1 r2 r4 1 (r2 - 1) r4 hf H locs ls hP hS (lv_sub hl [4, 3, 2, 1, 0] rfl)
