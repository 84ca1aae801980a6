def fX11_shipHour_209 (rec184 : St → Int32 → Int32 → Int32 → Int32 → Int32 → Option St) (σ : St) (x1 : Int32) (x4 : Int32) (x5 : Int32) (x6 : Int32) (x7 : Int32) (y0 : Int32) (y1 : Int32) (y2 : Int32) : Option St :=
(cv (fX11_flows σ y2 y1 y0 x5 x4) fun σ2 =>
rec184 σ2 x1 x4 x5 x6 (x7 + 1))
set_option maxHeartbeats 4000000 in
theorem b_fX11_shipHour_209 {E : Ev} {l : Launch} {p : Program} {e : Env} {s : State} {m : MethodId} {args : Array Value} {below : List Frame} {meth : Method} {c : Code} (C : CX false E RX11 cX11_shipHour 8 none p s m args meth c) {sr : St} (rec184 : St → Int32 → Int32 → Int32 → Int32 → Int32 → Option St) (hr184 : ∀ (σ : St) (x1 : Int32) (x4 : Int32) (x5 : Int32) (x6 : Int32) (x7 : Int32), rec184 σ x1 x4 x5 x6 x7 = some sr → GW false l (rmD 5) E 8 p e s m args below meth c (MQ below (QV false E sr s.heap.size) args s 0 0 (aW false E s.heap.size)) σ 184 [(0, .ref (ea E 0)), (1, .int x1), (4, .int x4), (5, .int x5), (6, .int x6), (7, .int x7)] []) : ∀ (σ : St) (x1 : Int32) (x4 : Int32) (x5 : Int32) (x6 : Int32) (x7 : Int32) (y0 : Int32) (y1 : Int32) (y2 : Int32), fX11_shipHour_209 rec184 σ x1 x4 x5 x6 x7 y0 y1 y2 = some sr → GW false l (rmD 5) E 8 p e s m args below meth c (MQ below (QV false E sr s.heap.size) args s 0 0 (aW false E s.heap.size)) σ 209 [(0, .ref (ea E 0)), (1, .int x1), (4, .int x4), (5, .int x5), (6, .int x6), (7, .int x7)] [.int y0, .int y1, .int y2, .ref (ea E 0)] := by
  intro σ x1 x4 x5 x6 x7 y0 y1 y2 hf H locs ls hP hS hl
  obtain ⟨hx, hb, hr, hml, hown, hts, hlocks, hK, hX, hj⟩ := id C
  unfold fX11_shipHour_209 at hf
  refine lv_iload hx hb dX11_shipHour_209 (lv_at hl 3 rfl) ?_
  refine lv_iload hx hb dX11_shipHour_211 (lv_at hl 2 rfl) ?_
  obtain ⟨σ2, hc1, hf⟩ := cv_e hf
  refine r_cVv (n := 5) (As := [.int y2, .int y1, .int y0, .int x5, .int x4]) (rest := []) C (c_fX11_flows hj σ H.size y2 y1 y0 x5 x4 hc1) oM_0 rfl gv_RX11_340 (by decide +kernel) ⟨rfl, rfl, by decide, by decide⟩ rfl rfl (Nat.le_of_ble_eq_true rfl) dX11_shipHour_213 hP hS hl.1 (fun H locs hP hS => ?_)
  refine lv_iinc (v := (x7 + 1)) (lv' := [(7, .int (x7 + 1)), (0, .ref (ea E 0)), (1, .int x1), (4, .int x4), (5, .int x5), (6, .int x6)]) hx hb dX11_shipHour_216 hl (k := 5) rfl rfl (by decide) rfl (fun ls hl => ?_)
  refine lv_goto (tgt := 184) hx hb dX11_shipHour_219 (by decide) ?_
  exact hr184 σ2 x1 x4 x5 x6 (x7 + 1) hf H locs ls hP hS (lv_sub hl [1, 2, 3, 4, 5, 0] rfl)
def fX11_shipHour_184B (rec170 : St → Int32 → Int32 → Int32 → Int32 → Option St) (rec184 : St → Int32 → Int32 → Int32 → Int32 → Int32 → Option St) (σ : St) (x1 : Int32) (x4 : Int32) (x5 : Int32) (x6 : Int32) (x7 : Int32) : Option St :=
(if 6 ≤ x7 then
rec170 σ x1 x4 x5 (x6 + 1)
else
(if x5 ≤ 0 then
fX11_shipHour_209 rec184 σ x1 x4 x5 x6 x7 x7 x6 x1
else
fX11_shipHour_209 rec184 σ x1 x4 x5 x6 x7 (5 - x7) x6 x1))
set_option maxHeartbeats 4000000 in
theorem b_fX11_shipHour_184B {E : Ev} {l : Launch} {p : Program} {e : Env} {s : State} {m : MethodId} {args : Array Value} {below : List Frame} {meth : Method} {c : Code} (C : CX false E RX11 cX11_shipHour 8 none p s m args meth c) {sr : St} (rec170 : St → Int32 → Int32 → Int32 → Int32 → Option St) (hr170 : ∀ (σ : St) (x1 : Int32) (x4 : Int32) (x5 : Int32) (x6 : Int32), rec170 σ x1 x4 x5 x6 = some sr → GW false l (rmD 5) E 8 p e s m args below meth c (MQ below (QV false E sr s.heap.size) args s 0 0 (aW false E s.heap.size)) σ 170 [(0, .ref (ea E 0)), (1, .int x1), (4, .int x4), (5, .int x5), (6, .int x6)] []) (rec184 : St → Int32 → Int32 → Int32 → Int32 → Int32 → Option St) (hr184 : ∀ (σ : St) (x1 : Int32) (x4 : Int32) (x5 : Int32) (x6 : Int32) (x7 : Int32), rec184 σ x1 x4 x5 x6 x7 = some sr → GW false l (rmD 5) E 8 p e s m args below meth c (MQ below (QV false E sr s.heap.size) args s 0 0 (aW false E s.heap.size)) σ 184 [(0, .ref (ea E 0)), (1, .int x1), (4, .int x4), (5, .int x5), (6, .int x6), (7, .int x7)] []) : ∀ (σ : St) (x1 : Int32) (x4 : Int32) (x5 : Int32) (x6 : Int32) (x7 : Int32), fX11_shipHour_184B rec170 rec184 σ x1 x4 x5 x6 x7 = some sr → GW false l (rmD 5) E 8 p e s m args below meth c (MQ below (QV false E sr s.heap.size) args s 0 0 (aW false E s.heap.size)) σ 184 [(0, .ref (ea E 0)), (1, .int x1), (4, .int x4), (5, .int x5), (6, .int x6), (7, .int x7)] [] := by
  intro σ x1 x4 x5 x6 x7 hf H locs ls hP hS hl
  obtain ⟨hx, hb, hr, hml, hown, hts, hlocks, hK, hX, hj⟩ := id C
  unfold fX11_shipHour_184B at hf
  refine lv_iload hx hb dX11_shipHour_184 (lv_at hl 5 rfl) ?_
  refine lv_bipush (v := 6) hx hb dX11_shipHour_186 (by decide) ?_
  refine lv_icmp_ge (tgt := 222) hx hb dX11_shipHour_188 (by decide) (fun c1 => ?_) (fun c1 => ?_)
  · replace hf := it_t c1 hf
    refine lv_iinc (v := (x6 + 1)) (lv' := [(6, .int (x6 + 1)), (0, .ref (ea E 0)), (1, .int x1), (4, .int x4), (5, .int x5), (7, .int x7)]) hx hb dX11_shipHour_222 hl (k := 4) rfl rfl (by decide) rfl (fun ls hl => ?_)
    refine lv_goto (tgt := 170) hx hb dX11_shipHour_225 (by decide) ?_
    exact hr170 σ x1 x4 x5 (x6 + 1) hf H locs ls hP hS (lv_sub hl [1, 2, 3, 4, 0] rfl)
  · replace hf := it_f c1 hf
    refine lv_aload_n hx hb dX11_shipHour_191 rfl (lv_at hl 0 rfl) ?_
    refine lv_iload_n hx hb dX11_shipHour_192 rfl (lv_at hl 1 rfl) ?_
    refine lv_iload hx hb dX11_shipHour_193 (lv_at hl 4 rfl) ?_
    refine lv_iload hx hb dX11_shipHour_195 (lv_at hl 3 rfl) ?_
    refine lv_if_le (tgt := 207) hx hb dX11_shipHour_197 (by decide) (fun c2 => ?_) (fun c2 => ?_)
    · replace hf := it_t c2 hf
      refine lv_iload hx hb dX11_shipHour_207 (lv_at hl 5 rfl) ?_
      exact b_fX11_shipHour_209 C rec184 hr184 σ x1 x4 x5 x6 x7 x7 x6 x1 hf H locs ls hP hS (lv_sub hl [0, 1, 2, 3, 4, 5] rfl)
    · replace hf := it_f c2 hf
      refine lv_iconst (v := 5) hx hb dX11_shipHour_200 (by decide) ?_
      refine lv_iload hx hb dX11_shipHour_201 (lv_at hl 5 rfl) ?_
      refine lv_isub hx hb dX11_shipHour_203 ?_
      refine lv_goto (tgt := 209) hx hb dX11_shipHour_204 (by decide) ?_
      exact b_fX11_shipHour_209 C rec184 hr184 σ x1 x4 x5 x6 x7 (5 - x7) x6 x1 hf H locs ls hP hS (lv_sub hl [0, 1, 2, 3, 4, 5] rfl)
def fX11_shipHour_184 (rec170 : St → Int32 → Int32 → Int32 → Int32 → Option St) : Nat → St → Int32 → Int32 → Int32 → Int32 → Int32 → Option St
  | 0 => fun _ _ _ _ _ _ => none
  | n + 1 => fun σ x1 x4 x5 x6 x7 => fX11_shipHour_184B rec170 (fX11_shipHour_184 rec170 n) σ x1 x4 x5 x6 x7
theorem b_fX11_shipHour_184 {E : Ev} {l : Launch} {p : Program} {e : Env} {s : State} {m : MethodId} {args : Array Value} {below : List Frame} {meth : Method} {c : Code} (C : CX false E RX11 cX11_shipHour 8 none p s m args meth c) {sr : St} (rec170 : St → Int32 → Int32 → Int32 → Int32 → Option St) (hr170 : ∀ (σ : St) (x1 : Int32) (x4 : Int32) (x5 : Int32) (x6 : Int32), rec170 σ x1 x4 x5 x6 = some sr → GW false l (rmD 5) E 8 p e s m args below meth c (MQ below (QV false E sr s.heap.size) args s 0 0 (aW false E s.heap.size)) σ 170 [(0, .ref (ea E 0)), (1, .int x1), (4, .int x4), (5, .int x5), (6, .int x6)] []) : ∀ (n : Nat) (σ : St) (x1 : Int32) (x4 : Int32) (x5 : Int32) (x6 : Int32) (x7 : Int32), fX11_shipHour_184 rec170 n σ x1 x4 x5 x6 x7 = some sr → GW false l (rmD 5) E 8 p e s m args below meth c (MQ below (QV false E sr s.heap.size) args s 0 0 (aW false E s.heap.size)) σ 184 [(0, .ref (ea E 0)), (1, .int x1), (4, .int x4), (5, .int x5), (6, .int x6), (7, .int x7)] [] := by
  intro n
  induction n with
  | zero => intro σ x1 x4 x5 x6 x7 hf; have hf : (none : Option _) = some _ := hf; cases hf
  | succ n ih => intro σ x1 x4 x5 x6 x7 hf; exact b_fX11_shipHour_184B C rec170 hr170 (fX11_shipHour_184 rec170 n) ih σ x1 x4 x5 x6 x7 hf
def fX11_shipHour_170B (rec170 : St → Int32 → Int32 → Int32 → Int32 → Option St) (σ : St) (x1 : Int32) (x4 : Int32) (x5 : Int32) (x6 : Int32) : Option St :=
(if 4 ≤ x6 then
some σ
else
(if x5 = 0 then
some σ
else
fX11_shipHour_184 rec170 FU σ x1 x4 x5 x6 1))
set_option maxHeartbeats 4000000 in
theorem b_fX11_shipHour_170B {E : Ev} {l : Launch} {p : Program} {e : Env} {s : State} {m : MethodId} {args : Array Value} {below : List Frame} {meth : Method} {c : Code} (C : CX false E RX11 cX11_shipHour 8 none p s m args meth c) {sr : St} (rec170 : St → Int32 → Int32 → Int32 → Int32 → Option St) (hr170 : ∀ (σ : St) (x1 : Int32) (x4 : Int32) (x5 : Int32) (x6 : Int32), rec170 σ x1 x4 x5 x6 = some sr → GW false l (rmD 5) E 8 p e s m args below meth c (MQ below (QV false E sr s.heap.size) args s 0 0 (aW false E s.heap.size)) σ 170 [(0, .ref (ea E 0)), (1, .int x1), (4, .int x4), (5, .int x5), (6, .int x6)] []) : ∀ (σ : St) (x1 : Int32) (x4 : Int32) (x5 : Int32) (x6 : Int32), fX11_shipHour_170B rec170 σ x1 x4 x5 x6 = some sr → GW false l (rmD 5) E 8 p e s m args below meth c (MQ below (QV false E sr s.heap.size) args s 0 0 (aW false E s.heap.size)) σ 170 [(0, .ref (ea E 0)), (1, .int x1), (4, .int x4), (5, .int x5), (6, .int x6)] [] := by
  intro σ x1 x4 x5 x6 hf H locs ls hP hS hl
  obtain ⟨hx, hb, hr, hml, hown, hts, hlocks, hK, hX, hj⟩ := id C
  unfold fX11_shipHour_170B at hf
  refine lv_iload hx hb dX11_shipHour_170 (lv_at hl 4 rfl) ?_
  refine lv_iconst (v := 4) hx hb dX11_shipHour_172 (by decide) ?_
  refine lv_icmp_ge (tgt := 228) hx hb dX11_shipHour_173 (by decide) (fun c1 => ?_) (fun c1 => ?_)
  · replace hf := it_t c1 hf
    cases hf
    exact r_vret C hP hS dX11_shipHour_228
  · replace hf := it_f c1 hf
    refine lv_iload hx hb dX11_shipHour_176 (lv_at hl 3 rfl) ?_
    refine lv_if_eq (tgt := 228) hx hb dX11_shipHour_178 (by decide) (fun c2 => ?_) (fun c2 => ?_)
    · replace hf := it_t c2 hf
      cases hf
      exact r_vret C hP hS dX11_shipHour_228
    · replace hf := it_f c2 hf
      refine lv_iconst (v := 1) hx hb dX11_shipHour_181 (by decide) ?_
      refine lv_istore (lv' := [(7, .int 1), (0, .ref (ea E 0)), (1, .int x1), (4, .int x4), (5, .int x5), (6, .int x6)]) hx hb dX11_shipHour_182 hl (by decide) rfl (fun ls hl => ?_)
      exact b_fX11_shipHour_184 C rec170 hr170 FU σ x1 x4 x5 x6 1 hf H locs ls hP hS (lv_sub hl [1, 2, 3, 4, 5, 0] rfl)
def fX11_shipHour_170 : Nat → St → Int32 → Int32 → Int32 → Int32 → Option St
  | 0 => fun _ _ _ _ _ => none
  | n + 1 => fun σ x1 x4 x5 x6 => fX11_shipHour_170B (fX11_shipHour_170 n) σ x1 x4 x5 x6
theorem b_fX11_shipHour_170 {E : Ev} {l : Launch} {p : Program} {e : Env} {s : State} {m : MethodId} {args : Array Value} {below : List Frame} {meth : Method} {c : Code} (C : CX false E RX11 cX11_shipHour 8 none p s m args meth c) {sr : St} : ∀ (n : Nat) (σ : St) (x1 : Int32) (x4 : Int32) (x5 : Int32) (x6 : Int32), fX11_shipHour_170 n σ x1 x4 x5 x6 = some sr → GW false l (rmD 5) E 8 p e s m args below meth c (MQ below (QV false E sr s.heap.size) args s 0 0 (aW false E s.heap.size)) σ 170 [(0, .ref (ea E 0)), (1, .int x1), (4, .int x4), (5, .int x5), (6, .int x6)] [] := by
  intro n
  induction n with
  | zero => intro σ x1 x4 x5 x6 hf; have hf : (none : Option _) = some _ := hf; cases hf
  | succ n ih => intro σ x1 x4 x5 x6 hf; exact b_fX11_shipHour_170B C (fX11_shipHour_170 n) ih σ x1 x4 x5 x6 hf
def fX11_shipHour_109 (σ : St) (x1 : Int32) (x2 : Int32) (x3 : Int32) (x4 : Int32) (y0 : Int32) (y1 : Int32) : Option St :=
(wrK 2 σ 11 y1 y0 fun σ1 =>
(rdK 30 (σ1 2) (x2 / 24) fun v3 =>
(rdK 2 (σ1 10) x1 fun v5 =>
(if (x4 + (v3 * ((v5.toUInt32 >>> ((30 : Int32).toUInt32 &&& Int32.toUInt32 31)).toInt32))) ≤ (σ1 0 45) then
(if x4 = 0 then
fX11_shipHour_170 FU σ1 x1 x4 0 0
else
(if x3 ≤ 0 then
fX11_shipHour_170 FU σ1 x1 x4 (-1) 0
else
fX11_shipHour_170 FU σ1 x1 x4 1 0))
else
(wrK 2 σ1 12 x1 x2 fun σ10 =>
some σ10)))))
set_option maxHeartbeats 4000000 in
theorem b_fX11_shipHour_109 {E : Ev} {l : Launch} {p : Program} {e : Env} {s : State} {m : MethodId} {args : Array Value} {below : List Frame} {meth : Method} {c : Code} (C : CX false E RX11 cX11_shipHour 8 none p s m args meth c) {sr : St} : ∀ (σ : St) (x1 : Int32) (x2 : Int32) (x3 : Int32) (x4 : Int32) (y0 : Int32) (y1 : Int32), fX11_shipHour_109 σ x1 x2 x3 x4 y0 y1 = some sr → GW false l (rmD 5) E 8 p e s m args below meth c (MQ below (QV false E sr s.heap.size) args s 0 0 (aW false E s.heap.size)) σ 109 [(0, .ref (ea E 0)), (1, .int x1), (2, .int x2), (3, .int x3), (4, .int x4)] [.int y0, .int y1, .ref (ea E 11)] := by
  intro σ x1 x2 x3 x4 y0 y1 hf H locs ls hP hS hl
  obtain ⟨hx, hb, hr, hml, hown, hts, hlocks, hK, hX, hj⟩ := id C
  unfold fX11_shipHour_109 at hf
  obtain ⟨h2, σ1, eσ1, hf⟩ := wrK_e hf
  refine r_ast C hP hS aM_11 h2 dX11_shipHour_109 (fun H locs hP hS => ?_)
  rw [← eσ1] at hP
  refine lv_iload hx hb dX11_shipHour_110 (lv_at hl 4 rfl) ?_
  refine lv_aload_n hx hb dX11_shipHour_112 rfl (lv_at hl 0 rfl) ?_
  refine r_get (k := 4) (v := .ref (ea E 2)) C hP oM_0 rfl iX11 (by decide) wm_t1023 rfl rfl dX11_shipHour_113 ?_
  refine lv_iload_n hx hb dX11_shipHour_116 rfl (lv_at hl 2 rfl) ?_
  refine lv_bipush (v := 24) hx hb dX11_shipHour_117 (by decide) ?_
  refine lv_idiv hx hb dX11_shipHour_119 (by decide) ?_
  have h4 := (rdK_e hf).1
  refine r_ald C hP aM_2 h4 dX11_shipHour_120 ?_
  refine lv_topi (fun v3 ev3 => ?_)
  replace hf := rdK_n ev3 hf
  refine lv_aload_n hx hb dX11_shipHour_121 rfl (lv_at hl 0 rfl) ?_
  refine r_get (k := 14) (v := .ref (ea E 10)) C hP oM_0 rfl iX11 (by decide) wm_t1033 rfl rfl dX11_shipHour_122 ?_
  refine lv_iload_n hx hb dX11_shipHour_125 rfl (lv_at hl 1 rfl) ?_
  have h6 := (rdK_e hf).1
  refine r_ald C hP aM_10 h6 dX11_shipHour_126 ?_
  refine lv_topi (fun v5 ev5 => ?_)
  replace hf := rdK_n ev5 hf
  refine lv_bipush (v := 30) hx hb dX11_shipHour_127 (by decide) ?_
  refine lv_iushr (v := (v5.toUInt32 >>> ((30 : Int32).toUInt32 &&& Int32.toUInt32 31)).toInt32) hx hb dX11_shipHour_129 rfl ?_
  refine lv_imul hx hb dX11_shipHour_130 ?_
  refine lv_iadd hx hb dX11_shipHour_131 ?_
  refine lv_aload_n hx hb dX11_shipHour_132 rfl (lv_at hl 0 rfl) ?_
  refine r_get (k := 45) (v := .int (σ1 0 45)) C hP oM_0 rfl iX11 (by decide) wm_t1064 rfl rfl dX11_shipHour_133 ?_
  refine lv_icmp_le (tgt := 147) hx hb dX11_shipHour_136 (by decide) (fun c7 => ?_) (fun c7 => ?_)
  · replace hf := it_t c7 hf
    refine lv_iload hx hb dX11_shipHour_147 (lv_at hl 4 rfl) ?_
    refine lv_if_ne (tgt := 156) hx hb dX11_shipHour_149 (by decide) (fun c8 => ?_) (fun c8 => ?_)
    · replace hf := it_f c8 hf
      refine lv_iload_n hx hb dX11_shipHour_156 rfl (lv_at hl 3 rfl) ?_
      refine lv_if_le (tgt := 164) hx hb dX11_shipHour_157 (by decide) (fun c9 => ?_) (fun c9 => ?_)
      · replace hf := it_t c9 hf
        refine lv_iconst (v := (-1)) hx hb dX11_shipHour_164 (by decide) ?_
        refine lv_istore (lv' := [(5, .int (-1)), (0, .ref (ea E 0)), (1, .int x1), (2, .int x2), (3, .int x3), (4, .int x4)]) hx hb dX11_shipHour_165 hl (by decide) rfl (fun ls hl => ?_)
        refine lv_iconst (v := 0) hx hb dX11_shipHour_167 (by decide) ?_
        refine lv_istore (lv' := [(6, .int 0), (5, .int (-1)), (0, .ref (ea E 0)), (1, .int x1), (2, .int x2), (3, .int x3), (4, .int x4)]) hx hb dX11_shipHour_168 hl (by decide) rfl (fun ls hl => ?_)
        exact b_fX11_shipHour_170 C FU σ1 x1 x4 (-1) 0 hf H locs ls hP hS (lv_sub hl [2, 3, 6, 1, 0] rfl)
      · replace hf := it_f c9 hf
        refine lv_iconst (v := 1) hx hb dX11_shipHour_160 (by decide) ?_
        refine lv_goto (tgt := 165) hx hb dX11_shipHour_161 (by decide) ?_
        refine lv_istore (lv' := [(5, .int 1), (0, .ref (ea E 0)), (1, .int x1), (2, .int x2), (3, .int x3), (4, .int x4)]) hx hb dX11_shipHour_165 hl (by decide) rfl (fun ls hl => ?_)
        refine lv_iconst (v := 0) hx hb dX11_shipHour_167 (by decide) ?_
        refine lv_istore (lv' := [(6, .int 0), (5, .int 1), (0, .ref (ea E 0)), (1, .int x1), (2, .int x2), (3, .int x3), (4, .int x4)]) hx hb dX11_shipHour_168 hl (by decide) rfl (fun ls hl => ?_)
        exact b_fX11_shipHour_170 C FU σ1 x1 x4 1 0 hf H locs ls hP hS (lv_sub hl [2, 3, 6, 1, 0] rfl)
    · replace hf := it_t c8 hf
      refine lv_iconst (v := 0) hx hb dX11_shipHour_152 (by decide) ?_
      refine lv_goto (tgt := 165) hx hb dX11_shipHour_153 (by decide) ?_
      refine lv_istore (lv' := [(5, .int 0), (0, .ref (ea E 0)), (1, .int x1), (2, .int x2), (3, .int x3), (4, .int x4)]) hx hb dX11_shipHour_165 hl (by decide) rfl (fun ls hl => ?_)
      refine lv_iconst (v := 0) hx hb dX11_shipHour_167 (by decide) ?_
      refine lv_istore (lv' := [(6, .int 0), (5, .int 0), (0, .ref (ea E 0)), (1, .int x1), (2, .int x2), (3, .int x3), (4, .int x4)]) hx hb dX11_shipHour_168 hl (by decide) rfl (fun ls hl => ?_)
      exact b_fX11_shipHour_170 C FU σ1 x1 x4 0 0 hf H locs ls hP hS (lv_sub hl [2, 3, 6, 1, 0] rfl)
  · replace hf := it_f c7 hf
    refine lv_aload_n hx hb dX11_shipHour_139 rfl (lv_at hl 0 rfl) ?_
    refine r_get (k := 16) (v := .ref (ea E 12)) C hP oM_0 rfl iX11 (by decide) wm_t1035 rfl rfl dX11_shipHour_140 ?_
    refine lv_iload_n hx hb dX11_shipHour_143 rfl (lv_at hl 1 rfl) ?_
    refine lv_iload_n hx hb dX11_shipHour_144 rfl (lv_at hl 2 rfl) ?_
    obtain ⟨h11, σ10, eσ10, hf⟩ := wrK_e hf
    refine r_ast C hP hS aM_12 h11 dX11_shipHour_145 (fun H locs hP hS => ?_)
    rw [← eσ10] at hP
    cases hf
    exact r_vret C hP hS dX11_shipHour_146
def fX11_shipHour_63 (σ : St) (x1 : Int32) (x2 : Int32) (y0 : Int32) (y1 : Int32) : Option St :=
(wrK 2 σ 11 y1 y0 fun σ1 =>
(wrK 2 σ1 12 x1 x2 fun σ3 =>
some σ3))
set_option maxHeartbeats 4000000 in
theorem b_fX11_shipHour_63 {E : Ev} {l : Launch} {p : Program} {e : Env} {s : State} {m : MethodId} {args : Array Value} {below : List Frame} {meth : Method} {c : Code} (C : CX false E RX11 cX11_shipHour 8 none p s m args meth c) {sr : St} : ∀ (σ : St) (x1 : Int32) (x2 : Int32) (y0 : Int32) (y1 : Int32), fX11_shipHour_63 σ x1 x2 y0 y1 = some sr → GW false l (rmD 5) E 8 p e s m args below meth c (MQ below (QV false E sr s.heap.size) args s 0 0 (aW false E s.heap.size)) σ 63 [(0, .ref (ea E 0)), (1, .int x1), (2, .int x2)] [.int y0, .int y1, .ref (ea E 11)] := by
  intro σ x1 x2 y0 y1 hf H locs ls hP hS hl
  obtain ⟨hx, hb, hr, hml, hown, hts, hlocks, hK, hX, hj⟩ := id C
  unfold fX11_shipHour_63 at hf
  obtain ⟨h2, σ1, eσ1, hf⟩ := wrK_e hf
  refine r_ast C hP hS aM_11 h2 dX11_shipHour_63 (fun H locs hP hS => ?_)
  rw [← eσ1] at hP
  refine lv_aload_n hx hb dX11_shipHour_64 rfl (lv_at hl 0 rfl) ?_
  refine r_get (k := 16) (v := .ref (ea E 12)) C hP oM_0 rfl iX11 (by decide) wm_t1035 rfl rfl dX11_shipHour_65 ?_
  refine lv_iload_n hx hb dX11_shipHour_68 rfl (lv_at hl 1 rfl) ?_
  refine lv_iload_n hx hb dX11_shipHour_69 rfl (lv_at hl 2 rfl) ?_
  obtain ⟨h4, σ3, eσ3, hf⟩ := wrK_e hf
  refine r_ast C hP hS aM_12 h4 dX11_shipHour_70 (fun H locs hP hS => ?_)
  rw [← eσ3] at hP
  cases hf
  exact r_vret C hP hS dX11_shipHour_71
def fX11_shipHour (σ : St) (a0 : Int32) (a1 : Int32) : Option St :=
(rdK 2 (σ 12) a0 fun v1 =>
(if v1 = (-1) then
(cv (fX11_shakes σ a0 a1) fun σ5 =>
(cv (fX11_shipWater σ5 a0 a1) fun σ7 =>
(cq (fX11_momentOf σ7 a0) fun r8 =>
(cq (fX11_weightOf σ7 a0) fun r10 =>
(cq (fX11_leanOf σ7 r8 r10) fun r12 =>
(if r12 = (-1) then
(if r8 ≤ 0 then
fX11_shipHour_63 σ7 a0 a1 (-61) a0
else
fX11_shipHour_63 σ7 a0 a1 61 a0)
else
(rdK 2 (σ7 10) a0 fun v15 =>
(wrK 2 σ7 10 a0 ((1664525 * v15) + 1013904223) fun σ17 =>
(if r8 ≤ 0 then
fX11_shipHour_109 σ17 a0 a1 r8 r12 (-r12) a0
else
fX11_shipHour_109 σ17 a0 a1 r8 r12 r12 a0)))))))))
else
some σ))
set_option maxHeartbeats 4000000 in
theorem c_fX11_shipHour {E : Ev} {l : Launch} (hj : jW false E) (σ : St) (sz : Nat) (a0 : Int32) (a1 : Int32) {sr : St} (hf : fX11_shipHour σ a0 a1 = some sr) : Met l yX11_shipHour (Cond.code yX11_shipHour cX11_shipHour 8 none :: gT) (rmD 5) (va_Pc [.ref (ea E 0), .int a0, .int a1] (preW false E σ sz)) (QV false E sr sz) 0 0 (aW false E sz) := by
  refine r_entry (QV false E sr) hj (by decide) [.ref (ea E 0), .int a0, .int a1] (Nat.le_of_ble_eq_true rfl) (fun p e s m args below meth c C => ?_)
  intro H locs ls hP hS hl
  have hl : lv_has ls 8 [(0, .ref (ea E 0)), (1, .int a0), (2, .int a1)] := hl
  obtain ⟨hx, hb, hr, hml, hown, hts, hlocks, hK, hX, hj⟩ := id C
  unfold fX11_shipHour at hf
  refine lv_aload_n hx hb dX11_shipHour_0 rfl (lv_at hl 0 rfl) ?_
  refine r_get (k := 16) (v := .ref (ea E 12)) C hP oM_0 rfl iX11 (by decide) wm_t1035 rfl rfl dX11_shipHour_1 ?_
  refine lv_iload_n hx hb dX11_shipHour_4 rfl (lv_at hl 1 rfl) ?_
  have h2 := (rdK_e hf).1
  refine r_ald C hP aM_12 h2 dX11_shipHour_5 ?_
  refine lv_topi (fun v1 ev1 => ?_)
  replace hf := rdK_n ev1 hf
  refine lv_iconst (v := (-1)) hx hb dX11_shipHour_6 (by decide) ?_
  refine lv_icmp_eq (tgt := 11) hx hb dX11_shipHour_7 (by decide) (fun c3 => ?_) (fun c3 => ?_)
  · replace hf := it_t c3 hf
    refine lv_aload_n hx hb dX11_shipHour_11 rfl (lv_at hl 0 rfl) ?_
    refine lv_iload_n hx hb dX11_shipHour_12 rfl (lv_at hl 1 rfl) ?_
    refine lv_iload_n hx hb dX11_shipHour_13 rfl (lv_at hl 2 rfl) ?_
    obtain ⟨σ5, hc4, hf⟩ := cv_e hf
    refine r_cVv (n := 2) (As := [.int a0, .int a1]) (rest := []) C (c_fX11_shakes hj σ H.size a0 a1 hc4) oM_0 rfl gv_RX11_323 (by decide +kernel) ⟨rfl, rfl, by decide, by decide⟩ rfl rfl (Nat.le_of_ble_eq_true rfl) dX11_shipHour_14 hP hS hl.1 (fun H locs hP hS => ?_)
    refine lv_aload_n hx hb dX11_shipHour_17 rfl (lv_at hl 0 rfl) ?_
    refine lv_iload_n hx hb dX11_shipHour_18 rfl (lv_at hl 1 rfl) ?_
    refine lv_iload_n hx hb dX11_shipHour_19 rfl (lv_at hl 2 rfl) ?_
    obtain ⟨σ7, hc6, hf⟩ := cv_e hf
    refine r_cVv (n := 2) (As := [.int a0, .int a1]) (rest := []) C (c_fX11_shipWater hj σ5 H.size a0 a1 hc6) oM_0 rfl gv_RX11_326 (by decide +kernel) ⟨rfl, rfl, by decide, by decide⟩ rfl rfl (Nat.le_of_ble_eq_true rfl) dX11_shipHour_20 hP hS hl.1 (fun H locs hP hS => ?_)
    refine lv_aload_n hx hb dX11_shipHour_23 rfl (lv_at hl 0 rfl) ?_
    refine lv_iload_n hx hb dX11_shipHour_24 rfl (lv_at hl 1 rfl) ?_
    obtain ⟨r8, hc9, hf⟩ := cq_e hf
    refine r_cVi (n := 1) (As := [.int a0]) (rest := []) C (c_fX11_momentOf hj σ7 H.size a0 hc9) oM_0 rfl gv_RX11_329 (by decide +kernel) ⟨rfl, rfl, by decide, by decide⟩ rfl rfl (Nat.le_of_ble_eq_true rfl) dX11_shipHour_25 hP hS hl.1 (fun H locs hP hS => ?_)
    refine lv_istore_n (lv' := [(3, .int r8), (0, .ref (ea E 0)), (1, .int a0), (2, .int a1)]) hx hb dX11_shipHour_28 rfl hl (by decide) rfl (fun ls hl => ?_)
    refine lv_aload_n hx hb dX11_shipHour_29 rfl (lv_at hl 1 rfl) ?_
    refine lv_iload_n hx hb dX11_shipHour_30 rfl (lv_at hl 0 rfl) ?_
    refine lv_aload_n hx hb dX11_shipHour_31 rfl (lv_at hl 1 rfl) ?_
    refine lv_iload_n hx hb dX11_shipHour_32 rfl (lv_at hl 2 rfl) ?_
    obtain ⟨r10, hc11, hf⟩ := cq_e hf
    refine r_cVi (n := 1) (As := [.int a0]) (rest := [.int r8, .ref (ea E 0)]) C (c_fX11_weightOf hj σ7 H.size a0 hc11) oM_0 rfl gv_RX11_332 (by decide +kernel) ⟨rfl, rfl, by decide, by decide⟩ rfl rfl (Nat.le_of_ble_eq_true rfl) dX11_shipHour_33 hP hS hl.1 (fun H locs hP hS => ?_)
    obtain ⟨r12, hc13, hf⟩ := cq_e hf
    refine r_cVi (n := 2) (As := [.int r8, .int r10]) (rest := []) C (c_fX11_leanOf hj σ7 H.size r8 r10 hc13) oM_0 rfl gv_RX11_335 (by decide +kernel) ⟨rfl, rfl, by decide, by decide⟩ rfl rfl (Nat.le_of_ble_eq_true rfl) dX11_shipHour_36 hP hS hl.1 (fun H locs hP hS => ?_)
    refine lv_istore (lv' := [(4, .int r12), (3, .int r8), (0, .ref (ea E 0)), (1, .int a0), (2, .int a1)]) hx hb dX11_shipHour_39 hl (by decide) rfl (fun ls hl => ?_)
    refine lv_iload hx hb dX11_shipHour_41 (lv_at hl 0 rfl) ?_
    refine lv_iconst (v := (-1)) hx hb dX11_shipHour_43 (by decide) ?_
    refine lv_icmp_ne (tgt := 72) hx hb dX11_shipHour_44 (by decide) (fun c14 => ?_) (fun c14 => ?_)
    · replace hf := it_f c14 hf
      refine lv_aload_n hx hb dX11_shipHour_72 rfl (lv_at hl 2 rfl) ?_
      refine r_get (k := 14) (v := .ref (ea E 10)) C hP oM_0 rfl iX11 (by decide) wm_t1033 rfl rfl dX11_shipHour_73 ?_
      refine lv_iload_n hx hb dX11_shipHour_76 rfl (lv_at hl 3 rfl) ?_
      refine lv_ldcw (v := 1664525) hx hb hown (hts _ wm_t1439) dX11_shipHour_77 ?_
      refine lv_aload_n hx hb dX11_shipHour_80 rfl (lv_at hl 2 rfl) ?_
      refine r_get (k := 14) (v := .ref (ea E 10)) C hP oM_0 rfl iX11 (by decide) wm_t1033 rfl rfl dX11_shipHour_81 ?_
      refine lv_iload_n hx hb dX11_shipHour_84 rfl (lv_at hl 3 rfl) ?_
      have h16 := (rdK_e hf).1
      refine r_ald C hP aM_10 h16 dX11_shipHour_85 ?_
      refine lv_topi (fun v15 ev15 => ?_)
      replace hf := rdK_n ev15 hf
      refine lv_imul hx hb dX11_shipHour_86 ?_
      refine lv_ldcw (v := 1013904223) hx hb hown (hts _ wm_t1440) dX11_shipHour_87 ?_
      refine lv_iadd hx hb dX11_shipHour_90 ?_
      obtain ⟨h18, σ17, eσ17, hf⟩ := wrK_e hf
      refine r_ast C hP hS aM_10 h18 dX11_shipHour_91 (fun H locs hP hS => ?_)
      rw [← eσ17] at hP
      refine lv_aload_n hx hb dX11_shipHour_92 rfl (lv_at hl 2 rfl) ?_
      refine r_get (k := 15) (v := .ref (ea E 11)) C hP oM_0 rfl iX11 (by decide) wm_t1034 rfl rfl dX11_shipHour_93 ?_
      refine lv_iload_n hx hb dX11_shipHour_96 rfl (lv_at hl 3 rfl) ?_
      refine lv_iload_n hx hb dX11_shipHour_97 rfl (lv_at hl 1 rfl) ?_
      refine lv_if_le (tgt := 106) hx hb dX11_shipHour_98 (by decide) (fun c19 => ?_) (fun c19 => ?_)
      · replace hf := it_t c19 hf
        refine lv_iload hx hb dX11_shipHour_106 (lv_at hl 0 rfl) ?_
        refine lv_ineg hx hb dX11_shipHour_108 ?_
        exact b_fX11_shipHour_109 C σ17 a0 a1 r8 r12 (-r12) a0 hf H locs ls hP hS (lv_sub hl [2, 3, 4, 1, 0] rfl)
      · replace hf := it_f c19 hf
        refine lv_iload hx hb dX11_shipHour_101 (lv_at hl 0 rfl) ?_
        refine lv_goto (tgt := 109) hx hb dX11_shipHour_103 (by decide) ?_
        exact b_fX11_shipHour_109 C σ17 a0 a1 r8 r12 r12 a0 hf H locs ls hP hS (lv_sub hl [2, 3, 4, 1, 0] rfl)
    · replace hf := it_t c14 hf
      refine lv_aload_n hx hb dX11_shipHour_47 rfl (lv_at hl 2 rfl) ?_
      refine r_get (k := 15) (v := .ref (ea E 11)) C hP oM_0 rfl iX11 (by decide) wm_t1034 rfl rfl dX11_shipHour_48 ?_
      refine lv_iload_n hx hb dX11_shipHour_51 rfl (lv_at hl 3 rfl) ?_
      refine lv_iload_n hx hb dX11_shipHour_52 rfl (lv_at hl 1 rfl) ?_
      refine lv_if_le (tgt := 61) hx hb dX11_shipHour_53 (by decide) (fun c20 => ?_) (fun c20 => ?_)
      · replace hf := it_t c20 hf
        refine lv_bipush (v := (-61)) hx hb dX11_shipHour_61 (by decide) ?_
        exact b_fX11_shipHour_63 C σ7 a0 a1 (-61) a0 hf H locs ls hP hS (lv_sub hl [2, 3, 4] rfl)
      · replace hf := it_f c20 hf
        refine lv_bipush (v := 61) hx hb dX11_shipHour_56 (by decide) ?_
        refine lv_goto (tgt := 63) hx hb dX11_shipHour_58 (by decide) ?_
        exact b_fX11_shipHour_63 C σ7 a0 a1 61 a0 hf H locs ls hP hS (lv_sub hl [2, 3, 4] rfl)
  · replace hf := it_f c3 hf
    cases hf
    exact r_vret C hP hS dX11_shipHour_10
def fX11_hours_57 (rec32 : St → Int32 → Int32 → Option (Int32 × St)) (σ : St) (x1 : Int32) (x2 : Int32) : Option (Int32 × St) :=
(nmS (st_put σ 0 1 ((σ 0 1) + 1)) fun σ1 =>
rec32 σ1 x1 (x2 + 1))
set_option maxHeartbeats 4000000 in
theorem b_fX11_hours_57 {E : Ev} {l : Launch} {p : Program} {e : Env} {s : State} {m : MethodId} {args : Array Value} {below : List Frame} {meth : Method} {c : Code} (C : CX false E RX11 cX11_hours 3 (some .int) p s m args meth c) {rr : Int32} {sr : St} (rec32 : St → Int32 → Int32 → Option (Int32 × St)) (hr32 : ∀ (σ : St) (x1 : Int32) (x2 : Int32), rec32 σ x1 x2 = some (rr, sr) → GW false l (rmD 6) E 3 p e s m args below meth c (MQ below (QI false E rr sr s.heap.size) args s 0 0 (aW false E s.heap.size)) σ 32 [(0, .ref (ea E 0)), (1, .int x1), (2, .int x2)] []) : ∀ (σ : St) (x1 : Int32) (x2 : Int32), fX11_hours_57 rec32 σ x1 x2 = some (rr, sr) → GW false l (rmD 6) E 3 p e s m args below meth c (MQ below (QI false E rr sr s.heap.size) args s 0 0 (aW false E s.heap.size)) σ 57 [(0, .ref (ea E 0)), (1, .int x1), (2, .int x2)] [] := by
  intro σ x1 x2 hf H locs ls hP hS hl
  obtain ⟨hx, hb, hr, hml, hown, hts, hlocks, hK, hX, hj⟩ := id C
  unfold fX11_hours_57 at hf
  refine lv_aload_n hx hb dX11_hours_57 rfl (lv_at hl 0 rfl) ?_
  refine lv_aload_n hx hb dX11_hours_58 rfl (lv_at hl 0 rfl) ?_
  refine r_get (k := 1) (v := .int (σ 0 1)) C hP oM_0 rfl iX11 (by decide) wm_t1020 rfl rfl dX11_hours_59 ?_
  refine lv_iconst (v := 1) hx hb dX11_hours_62 (by decide) ?_
  refine lv_iadd hx hb dX11_hours_63 ?_
  refine r_put (k := 1) (x := ((σ 0 1) + 1)) C hP hS tyX11 tyX11_ok nmX11 oM_0 rfl iX11 (by decide) wm_t1020 rfl rfl sM_0_1 rfl rfl (Nat.le_of_ble_eq_true rfl) dX11_hours_64 (fun H locs hP hS => ?_)
  obtain ⟨σ1, eσ1, hf⟩ := nmS_e hf
  rw [← eσ1] at hP
  refine lv_iinc (v := (x2 + 1)) (lv' := [(2, .int (x2 + 1)), (0, .ref (ea E 0)), (1, .int x1)]) hx hb dX11_hours_67 hl (k := 2) rfl rfl (by decide) rfl (fun ls hl => ?_)
  refine lv_goto (tgt := 32) hx hb dX11_hours_70 (by decide) ?_
  exact hr32 σ1 x1 (x2 + 1) hf H locs ls hP hS (lv_sub hl [1, 2, 0] rfl)
def fX11_hours_32B (rec32 : St → Int32 → Int32 → Option (Int32 × St)) (σ : St) (x1 : Int32) (x2 : Int32) : Option (Int32 × St) :=
(if x1 ≤ x2 then
some ((σ 0 1), σ)
else
(cv (fX11_heapHour σ) fun σ3 =>
(if (σ3 0 13) = 0 then
fX11_hours_57 rec32 σ3 x1 x2
else
(cv (fX11_shipHour σ3 0 (σ3 0 1)) fun σ6 =>
fX11_hours_57 rec32 σ6 x1 x2))))
set_option maxHeartbeats 4000000 in
theorem b_fX11_hours_32B {E : Ev} {l : Launch} {p : Program} {e : Env} {s : State} {m : MethodId} {args : Array Value} {below : List Frame} {meth : Method} {c : Code} (C : CX false E RX11 cX11_hours 3 (some .int) p s m args meth c) {rr : Int32} {sr : St} (rec32 : St → Int32 → Int32 → Option (Int32 × St)) (hr32 : ∀ (σ : St) (x1 : Int32) (x2 : Int32), rec32 σ x1 x2 = some (rr, sr) → GW false l (rmD 6) E 3 p e s m args below meth c (MQ below (QI false E rr sr s.heap.size) args s 0 0 (aW false E s.heap.size)) σ 32 [(0, .ref (ea E 0)), (1, .int x1), (2, .int x2)] []) : ∀ (σ : St) (x1 : Int32) (x2 : Int32), fX11_hours_32B rec32 σ x1 x2 = some (rr, sr) → GW false l (rmD 6) E 3 p e s m args below meth c (MQ below (QI false E rr sr s.heap.size) args s 0 0 (aW false E s.heap.size)) σ 32 [(0, .ref (ea E 0)), (1, .int x1), (2, .int x2)] [] := by
  intro σ x1 x2 hf H locs ls hP hS hl
  obtain ⟨hx, hb, hr, hml, hown, hts, hlocks, hK, hX, hj⟩ := id C
  unfold fX11_hours_32B at hf
  refine lv_iload_n hx hb dX11_hours_32 rfl (lv_at hl 2 rfl) ?_
  refine lv_iload_n hx hb dX11_hours_33 rfl (lv_at hl 1 rfl) ?_
  refine lv_icmp_ge (tgt := 73) hx hb dX11_hours_34 (by decide) (fun c1 => ?_) (fun c1 => ?_)
  · replace hf := it_t c1 hf
    refine lv_aload_n hx hb dX11_hours_73 rfl (lv_at hl 0 rfl) ?_
    refine r_get (k := 1) (v := .int (σ 0 1)) C hP oM_0 rfl iX11 (by decide) wm_t1020 rfl rfl dX11_hours_74 ?_
    cases hf
    exact r_iret C hP hS dX11_hours_77
  · replace hf := it_f c1 hf
    refine lv_aload_n hx hb dX11_hours_37 rfl (lv_at hl 0 rfl) ?_
    obtain ⟨σ3, hc2, hf⟩ := cv_e hf
    refine r_cVv (n := 0) (As := []) (rest := []) C (c_fX11_heapHour hj σ H.size hc2) oM_0 rfl gv_RX11_344 (by decide +kernel) ⟨rfl, rfl, by decide, by decide⟩ rfl rfl (Nat.le_of_ble_eq_true rfl) dX11_hours_38 hP hS hl.1 (fun H locs hP hS => ?_)
    refine lv_aload_n hx hb dX11_hours_41 rfl (lv_at hl 0 rfl) ?_
    refine r_get (k := 13) (v := .int (σ3 0 13)) C hP oM_0 rfl iX11 (by decide) wm_t1032 rfl rfl dX11_hours_42 ?_
    refine lv_if_eq (tgt := 57) hx hb dX11_hours_45 (by decide) (fun c4 => ?_) (fun c4 => ?_)
    · replace hf := it_t c4 hf
      exact b_fX11_hours_57 C rec32 hr32 σ3 x1 x2 hf H locs ls hP hS (lv_sub hl [0, 1, 2] rfl)
    · replace hf := it_f c4 hf
      refine lv_aload_n hx hb dX11_hours_48 rfl (lv_at hl 0 rfl) ?_
      refine lv_iconst (v := 0) hx hb dX11_hours_49 (by decide) ?_
      refine lv_aload_n hx hb dX11_hours_50 rfl (lv_at hl 0 rfl) ?_
      refine r_get (k := 1) (v := .int (σ3 0 1)) C hP oM_0 rfl iX11 (by decide) wm_t1020 rfl rfl dX11_hours_51 ?_
      obtain ⟨σ6, hc5, hf⟩ := cv_e hf
      refine r_cVv (n := 2) (As := [.int 0, .int (σ3 0 1)]) (rest := []) C (c_fX11_shipHour hj σ3 H.size 0 (σ3 0 1) hc5) oM_0 rfl gv_RX11_350 (by decide +kernel) ⟨rfl, rfl, by decide, by decide⟩ rfl rfl (Nat.le_of_ble_eq_true rfl) dX11_hours_54 hP hS hl.1 (fun H locs hP hS => ?_)
      exact b_fX11_hours_57 C rec32 hr32 σ6 x1 x2 hf H locs ls hP hS (lv_sub hl [0, 1, 2] rfl)
def fX11_hours_32 : Nat → St → Int32 → Int32 → Option (Int32 × St)
  | 0 => fun _ _ _ => none
  | n + 1 => fun σ x1 x2 => fX11_hours_32B (fX11_hours_32 n) σ x1 x2
theorem b_fX11_hours_32 {E : Ev} {l : Launch} {p : Program} {e : Env} {s : State} {m : MethodId} {args : Array Value} {below : List Frame} {meth : Method} {c : Code} (C : CX false E RX11 cX11_hours 3 (some .int) p s m args meth c) {rr : Int32} {sr : St} : ∀ (n : Nat) (σ : St) (x1 : Int32) (x2 : Int32), fX11_hours_32 n σ x1 x2 = some (rr, sr) → GW false l (rmD 6) E 3 p e s m args below meth c (MQ below (QI false E rr sr s.heap.size) args s 0 0 (aW false E s.heap.size)) σ 32 [(0, .ref (ea E 0)), (1, .int x1), (2, .int x2)] [] := by
  intro n
  induction n with
  | zero => intro σ x1 x2 hf; have hf : (none : Option _) = some _ := hf; cases hf
  | succ n ih => intro σ x1 x2 hf; exact b_fX11_hours_32B C (fX11_hours_32 n) ih σ x1 x2 hf
def fX11_hours (σ : St) (a0 : Int32) : Option (Int32 × St) :=
(nmS (st_put σ 0 0 0) fun σ1 =>
(if (fX11_isIn a0 1 48) = 0 then
some ((-1), σ1)
else
(if ((σ1 0 1) + a0) ≤ 719 then
fX11_hours_32 FU σ1 a0 0
else
some ((-1), σ1))))
set_option maxHeartbeats 4000000 in
theorem c_fX11_hours {E : Ev} {l : Launch} (hj : jW false E) (σ : St) (sz : Nat) (a0 : Int32) {rr : Int32} {sr : St} (hf : fX11_hours σ a0 = some (rr, sr)) : Met l yX11_hours (Cond.code yX11_hours cX11_hours 3 (some .int) :: gT) (rmD 6) (va_Pc [.ref (ea E 0), .int a0] (preW false E σ sz)) (QI false E rr sr sz) 0 0 (aW false E sz) := by
  refine r_entry (QI false E rr sr) hj (by decide) [.ref (ea E 0), .int a0] (Nat.le_of_ble_eq_true rfl) (fun p e s m args below meth c C => ?_)
  intro H locs ls hP hS hl
  have hl : lv_has ls 3 [(0, .ref (ea E 0)), (1, .int a0)] := hl
  obtain ⟨hx, hb, hr, hml, hown, hts, hlocks, hK, hX, hj⟩ := id C
  unfold fX11_hours at hf
  refine lv_aload_n hx hb dX11_hours_0 rfl (lv_at hl 0 rfl) ?_
  refine lv_iconst (v := 0) hx hb dX11_hours_1 (by decide) ?_
  refine r_put (k := 0) (x := 0) C hP hS tyX11 tyX11_ok nmX11 oM_0 rfl iX11 (by decide) wm_t1019 rfl rfl sM_0_0 rfl rfl (Nat.le_of_ble_eq_true rfl) dX11_hours_2 (fun H locs hP hS => ?_)
  obtain ⟨σ1, eσ1, hf⟩ := nmS_e hf
  rw [← eσ1] at hP
  refine lv_aload_n hx hb dX11_hours_5 rfl (lv_at hl 0 rfl) ?_
  refine lv_iload_n hx hb dX11_hours_6 rfl (lv_at hl 1 rfl) ?_
  refine lv_iconst (v := 1) hx hb dX11_hours_7 (by decide) ?_
  refine lv_bipush (v := 48) hx hb dX11_hours_8 (by decide) ?_
  refine r_cVi (n := 3) (As := [.int a0, .int 1, .int 48]) (rest := []) C (c_fX11_isIn hj σ1 H.size a0 1 48) oM_0 rfl gv_RX11_144 (by decide +kernel) ⟨rfl, rfl, by decide, by decide⟩ rfl rfl (Nat.le_of_ble_eq_true rfl) dX11_hours_10 hP hS hl.1 (fun H locs hP hS => ?_)
  refine lv_if_eq (tgt := 28) hx hb dX11_hours_13 (by decide) (fun c2 => ?_) (fun c2 => ?_)
  · replace hf := it_t c2 hf
    refine lv_iconst (v := (-1)) hx hb dX11_hours_28 (by decide) ?_
    cases hf
    exact r_iret C hP hS dX11_hours_29
  · replace hf := it_f c2 hf
    refine lv_aload_n hx hb dX11_hours_16 rfl (lv_at hl 0 rfl) ?_
    refine r_get (k := 1) (v := .int (σ1 0 1)) C hP oM_0 rfl iX11 (by decide) wm_t1020 rfl rfl dX11_hours_17 ?_
    refine lv_iload_n hx hb dX11_hours_20 rfl (lv_at hl 1 rfl) ?_
    refine lv_iadd hx hb dX11_hours_21 ?_
    refine lv_sipush (v := 719) hx hb dX11_hours_22 (by decide) ?_
    refine lv_icmp_le (tgt := 30) hx hb dX11_hours_25 (by decide) (fun c3 => ?_) (fun c3 => ?_)
    · replace hf := it_t c3 hf
      refine lv_iconst (v := 0) hx hb dX11_hours_30 (by decide) ?_
      refine lv_istore_n (lv' := [(2, .int 0), (0, .ref (ea E 0)), (1, .int a0)]) hx hb dX11_hours_31 rfl hl (by decide) rfl (fun ls hl => ?_)
      exact b_fX11_hours_32 C FU σ1 a0 0 hf H locs ls hP hS (lv_sub hl [1, 2, 0] rfl)
    · replace hf := it_f c3 hf
      refine lv_iconst (v := (-1)) hx hb dX11_hours_28 (by decide) ?_
      cases hf
      exact r_iret C hP hS dX11_hours_29
def fX11_load (σ : St) (a0 : Int32) (a1 : Int32) (a2 : Int32) (a3 : Int32) : Option (Int32 × St) :=
(nmS (st_put σ 0 0 0) fun σ1 =>
(if (fX11_heapAt a0 a1 0) = (-1) then
some (0, σ1)
else
(if (fX11_holdAt a2 a3 0) = (-1) then
some (0, σ1)
else
(if (σ1 0 13) = 0 then
(cq (fX11_heapHeight σ1 (fX11_heapAt a0 a1 0)) fun r5 =>
(if r5 = 0 then
some (0, σ1)
else
(cq (fX11_height σ1 (fX11_holdAt a2 a3 0)) fun r8 =>
(if r8 = 6 then
some (0, σ1)
else
(cq (fX11_heapHeight σ1 (fX11_heapAt a0 a1 0)) fun r11 =>
(cq (fX11_height σ1 (fX11_holdAt a2 a3 0)) fun r13 =>
(rdK 256 (σ1 3) (((fX11_heapAt a0 a1 0) + (64 * r11)) - 64) fun v15 =>
(wrK 288 σ1 5 ((fX11_holdAt a2 a3 0) + r13) v15 fun σ17 =>
(rdK 256 (σ17 4) (((fX11_heapAt a0 a1 0) + (64 * r11)) - 64) fun v19 =>
(wrK 288 σ17 6 ((fX11_holdAt a2 a3 0) + r13) v19 fun σ21 =>
(wrK 288 σ21 7 ((fX11_holdAt a2 a3 0) + r13) 0 fun σ23 =>
(wrK 288 σ23 8 ((fX11_holdAt a2 a3 0) + r13) (vp_nar .boolean 0) fun σ25 =>
(wrK 256 σ25 3 (((fX11_heapAt a0 a1 0) + (64 * r11)) - 64) 0 fun σ27 =>
(wrK 256 σ27 4 (((fX11_heapAt a0 a1 0) + (64 * r11)) - 64) 0 fun σ29 =>
some (1, σ29)))))))))))))))
else
some (0, σ1)))))
set_option maxHeartbeats 4000000 in
theorem c_fX11_load {E : Ev} {l : Launch} (hj : jW false E) (σ : St) (sz : Nat) (a0 : Int32) (a1 : Int32) (a2 : Int32) (a3 : Int32) {rr : Int32} {sr : St} (hf : fX11_load σ a0 a1 a2 a3 = some (rr, sr)) : Met l yX11_load (Cond.code yX11_load cX11_load 9 (some .boolean) :: gT) (rmD 3) (va_Pc [.ref (ea E 0), .int a0, .int a1, .int a2, .int a3] (preW false E σ sz)) (QI false E rr sr sz) 0 0 (aW false E sz) := by
  refine r_entry (QI false E rr sr) hj (by decide) [.ref (ea E 0), .int a0, .int a1, .int a2, .int a3] (Nat.le_of_ble_eq_true rfl) (fun p e s m args below meth c C => ?_)
  intro H locs ls hP hS hl
  have hl : lv_has ls 9 [(0, .ref (ea E 0)), (1, .int a0), (2, .int a1), (3, .int a2), (4, .int a3)] := hl
  obtain ⟨hx, hb, hr, hml, hown, hts, hlocks, hK, hX, hj⟩ := id C
  unfold fX11_load at hf
  refine lv_aload_n hx hb dX11_load_0 rfl (lv_at hl 0 rfl) ?_
  refine lv_iconst (v := 0) hx hb dX11_load_1 (by decide) ?_
  refine r_put (k := 0) (x := 0) C hP hS tyX11 tyX11_ok nmX11 oM_0 rfl iX11 (by decide) wm_t1019 rfl rfl sM_0_0 rfl rfl (Nat.le_of_ble_eq_true rfl) dX11_load_2 (fun H locs hP hS => ?_)
  obtain ⟨σ1, eσ1, hf⟩ := nmS_e hf
  rw [← eσ1] at hP
  refine lv_aload_n hx hb dX11_load_5 rfl (lv_at hl 0 rfl) ?_
  refine lv_iload_n hx hb dX11_load_6 rfl (lv_at hl 1 rfl) ?_
  refine lv_iload_n hx hb dX11_load_7 rfl (lv_at hl 2 rfl) ?_
  refine lv_iconst (v := 0) hx hb dX11_load_8 (by decide) ?_
  refine r_cVi (n := 3) (As := [.int a0, .int a1, .int 0]) (rest := []) C (c_fX11_heapAt hj σ1 H.size a0 a1 0) oM_0 rfl gv_RX11_151 (by decide +kernel) ⟨rfl, rfl, by decide, by decide⟩ rfl rfl (Nat.le_of_ble_eq_true rfl) dX11_load_9 hP hS hl.1 (fun H locs hP hS => ?_)
  refine lv_istore (lv' := [(5, .int (fX11_heapAt a0 a1 0)), (0, .ref (ea E 0)), (1, .int a0), (2, .int a1), (3, .int a2), (4, .int a3)]) hx hb dX11_load_12 hl (by decide) rfl (fun ls hl => ?_)
  refine lv_aload_n hx hb dX11_load_14 rfl (lv_at hl 1 rfl) ?_
  refine lv_iload_n hx hb dX11_load_15 rfl (lv_at hl 4 rfl) ?_
  refine lv_iload hx hb dX11_load_16 (lv_at hl 5 rfl) ?_
  refine lv_iconst (v := 0) hx hb dX11_load_18 (by decide) ?_
  refine r_cVi (n := 3) (As := [.int a2, .int a3, .int 0]) (rest := []) C (c_fX11_holdAt hj σ1 H.size a2 a3 0) oM_0 rfl gv_RX11_155 (by decide +kernel) ⟨rfl, rfl, by decide, by decide⟩ rfl rfl (Nat.le_of_ble_eq_true rfl) dX11_load_19 hP hS hl.1 (fun H locs hP hS => ?_)
  refine lv_istore (lv' := [(6, .int (fX11_holdAt a2 a3 0)), (5, .int (fX11_heapAt a0 a1 0)), (0, .ref (ea E 0)), (1, .int a0), (2, .int a1), (3, .int a2), (4, .int a3)]) hx hb dX11_load_22 hl (by decide) rfl (fun ls hl => ?_)
  refine lv_iload hx hb dX11_load_24 (lv_at hl 1 rfl) ?_
  refine lv_iconst (v := (-1)) hx hb dX11_load_26 (by decide) ?_
  refine lv_icmp_eq (tgt := 63) hx hb dX11_load_27 (by decide) (fun c2 => ?_) (fun c2 => ?_)
  · replace hf := it_t c2 hf
    refine lv_iconst (v := 0) hx hb dX11_load_63 (by decide) ?_
    cases hf
    exact r_zret C rfl hP hS dX11_load_64
  · replace hf := it_f c2 hf
    refine lv_iload hx hb dX11_load_30 (lv_at hl 0 rfl) ?_
    refine lv_iconst (v := (-1)) hx hb dX11_load_32 (by decide) ?_
    refine lv_icmp_eq (tgt := 63) hx hb dX11_load_33 (by decide) (fun c3 => ?_) (fun c3 => ?_)
    · replace hf := it_t c3 hf
      refine lv_iconst (v := 0) hx hb dX11_load_63 (by decide) ?_
      cases hf
      exact r_zret C rfl hP hS dX11_load_64
    · replace hf := it_f c3 hf
      refine lv_aload_n hx hb dX11_load_36 rfl (lv_at hl 2 rfl) ?_
      refine r_get (k := 13) (v := .int (σ1 0 13)) C hP oM_0 rfl iX11 (by decide) wm_t1032 rfl rfl dX11_load_37 ?_
      refine lv_if_ne (tgt := 63) hx hb dX11_load_40 (by decide) (fun c4 => ?_) (fun c4 => ?_)
      · replace hf := it_f c4 hf
        refine lv_iconst (v := 0) hx hb dX11_load_63 (by decide) ?_
        cases hf
        exact r_zret C rfl hP hS dX11_load_64
      · replace hf := it_t c4 hf
        refine lv_aload_n hx hb dX11_load_43 rfl (lv_at hl 2 rfl) ?_
        refine lv_iload hx hb dX11_load_44 (lv_at hl 1 rfl) ?_
        obtain ⟨r5, hc6, hf⟩ := cq_e hf
        refine r_cVi (n := 1) (As := [.int (fX11_heapAt a0 a1 0)]) (rest := []) C (c_fX11_heapHeight hj σ1 H.size (fX11_heapAt a0 a1 0) hc6) oM_0 rfl gv_RX11_290 (by decide +kernel) ⟨rfl, rfl, by decide, by decide⟩ rfl rfl (Nat.le_of_ble_eq_true rfl) dX11_load_46 hP hS hl.1 (fun H locs hP hS => ?_)
        refine lv_if_eq (tgt := 63) hx hb dX11_load_49 (by decide) (fun c7 => ?_) (fun c7 => ?_)
        · replace hf := it_t c7 hf
          refine lv_iconst (v := 0) hx hb dX11_load_63 (by decide) ?_
          cases hf
          exact r_zret C rfl hP hS dX11_load_64
        · replace hf := it_f c7 hf
          refine lv_aload_n hx hb dX11_load_52 rfl (lv_at hl 2 rfl) ?_
          refine lv_iload hx hb dX11_load_53 (lv_at hl 0 rfl) ?_
          obtain ⟨r8, hc9, hf⟩ := cq_e hf
          refine r_cVi (n := 1) (As := [.int (fX11_holdAt a2 a3 0)]) (rest := []) C (c_fX11_height hj σ1 H.size (fX11_holdAt a2 a3 0) hc9) oM_0 rfl gv_RX11_320 (by decide +kernel) ⟨rfl, rfl, by decide, by decide⟩ rfl rfl (Nat.le_of_ble_eq_true rfl) dX11_load_55 hP hS hl.1 (fun H locs hP hS => ?_)
          refine lv_bipush (v := 6) hx hb dX11_load_58 (by decide) ?_
          refine lv_icmp_ne (tgt := 65) hx hb dX11_load_60 (by decide) (fun c10 => ?_) (fun c10 => ?_)
          · replace hf := it_f c10 hf
            refine lv_iload hx hb dX11_load_65 (lv_at hl 1 rfl) ?_
            refine lv_bipush (v := 64) hx hb dX11_load_67 (by decide) ?_
            refine lv_aload_n hx hb dX11_load_69 rfl (lv_at hl 2 rfl) ?_
            refine lv_iload hx hb dX11_load_70 (lv_at hl 1 rfl) ?_
            obtain ⟨r11, hc12, hf⟩ := cq_e hf
            refine r_cVi (n := 1) (As := [.int (fX11_heapAt a0 a1 0)]) (rest := [.int 64, .int (fX11_heapAt a0 a1 0)]) C (c_fX11_heapHeight hj σ1 H.size (fX11_heapAt a0 a1 0) hc12) oM_0 rfl gv_RX11_290 (by decide +kernel) ⟨rfl, rfl, by decide, by decide⟩ rfl rfl (Nat.le_of_ble_eq_true rfl) dX11_load_72 hP hS hl.1 (fun H locs hP hS => ?_)
            refine lv_imul hx hb dX11_load_75 ?_
            refine lv_iadd hx hb dX11_load_76 ?_
            refine lv_bipush (v := 64) hx hb dX11_load_77 (by decide) ?_
            refine lv_isub hx hb dX11_load_79 ?_
            refine lv_istore (lv' := [(7, .int (((fX11_heapAt a0 a1 0) + (64 * r11)) - 64)), (6, .int (fX11_holdAt a2 a3 0)), (5, .int (fX11_heapAt a0 a1 0)), (0, .ref (ea E 0)), (1, .int a0), (2, .int a1), (3, .int a2), (4, .int a3)]) hx hb dX11_load_80 hl (by decide) rfl (fun ls hl => ?_)
            refine lv_iload hx hb dX11_load_82 (lv_at hl 1 rfl) ?_
            refine lv_aload_n hx hb dX11_load_84 rfl (lv_at hl 3 rfl) ?_
            refine lv_iload hx hb dX11_load_85 (lv_at hl 1 rfl) ?_
            obtain ⟨r13, hc14, hf⟩ := cq_e hf
            refine r_cVi (n := 1) (As := [.int (fX11_holdAt a2 a3 0)]) (rest := [.int (fX11_holdAt a2 a3 0)]) C (c_fX11_height hj σ1 H.size (fX11_holdAt a2 a3 0) hc14) oM_0 rfl gv_RX11_320 (by decide +kernel) ⟨rfl, rfl, by decide, by decide⟩ rfl rfl (Nat.le_of_ble_eq_true rfl) dX11_load_87 hP hS hl.1 (fun H locs hP hS => ?_)
            refine lv_iadd hx hb dX11_load_90 ?_
            refine lv_istore (lv' := [(8, .int ((fX11_holdAt a2 a3 0) + r13)), (7, .int (((fX11_heapAt a0 a1 0) + (64 * r11)) - 64)), (6, .int (fX11_holdAt a2 a3 0)), (5, .int (fX11_heapAt a0 a1 0)), (0, .ref (ea E 0)), (1, .int a0), (2, .int a1), (3, .int a2), (4, .int a3)]) hx hb dX11_load_91 hl (by decide) rfl (fun ls hl => ?_)
            refine lv_aload_n hx hb dX11_load_93 rfl (lv_at hl 4 rfl) ?_
            refine r_get (k := 7) (v := .ref (ea E 5)) C hP oM_0 rfl iX11 (by decide) wm_t1026 rfl rfl dX11_load_94 ?_
            refine lv_iload hx hb dX11_load_97 (lv_at hl 0 rfl) ?_
            refine lv_aload_n hx hb dX11_load_99 rfl (lv_at hl 4 rfl) ?_
            refine r_get (k := 5) (v := .ref (ea E 3)) C hP oM_0 rfl iX11 (by decide) wm_t1024 rfl rfl dX11_load_100 ?_
            refine lv_iload hx hb dX11_load_103 (lv_at hl 1 rfl) ?_
            have h16 := (rdK_e hf).1
            refine r_ald C hP aM_3 h16 dX11_load_105 ?_
            refine lv_topi (fun v15 ev15 => ?_)
            replace hf := rdK_n ev15 hf
            obtain ⟨h18, σ17, eσ17, hf⟩ := wrK_e hf
            refine r_ast C hP hS aM_5 h18 dX11_load_106 (fun H locs hP hS => ?_)
            rw [← eσ17] at hP
            refine lv_aload_n hx hb dX11_load_107 rfl (lv_at hl 4 rfl) ?_
            refine r_get (k := 8) (v := .ref (ea E 6)) C hP oM_0 rfl iX11 (by decide) wm_t1027 rfl rfl dX11_load_108 ?_
            refine lv_iload hx hb dX11_load_111 (lv_at hl 0 rfl) ?_
            refine lv_aload_n hx hb dX11_load_113 rfl (lv_at hl 4 rfl) ?_
            refine r_get (k := 6) (v := .ref (ea E 4)) C hP oM_0 rfl iX11 (by decide) wm_t1025 rfl rfl dX11_load_114 ?_
            refine lv_iload hx hb dX11_load_117 (lv_at hl 1 rfl) ?_
            have h20 := (rdK_e hf).1
            refine r_ald C hP aM_4 h20 dX11_load_119 ?_
            refine lv_topi (fun v19 ev19 => ?_)
            replace hf := rdK_n ev19 hf
            obtain ⟨h22, σ21, eσ21, hf⟩ := wrK_e hf
            refine r_ast C hP hS aM_6 h22 dX11_load_120 (fun H locs hP hS => ?_)
            rw [← eσ21] at hP
            refine lv_aload_n hx hb dX11_load_121 rfl (lv_at hl 4 rfl) ?_
            refine r_get (k := 9) (v := .ref (ea E 7)) C hP oM_0 rfl iX11 (by decide) wm_t1028 rfl rfl dX11_load_122 ?_
            refine lv_iload hx hb dX11_load_125 (lv_at hl 0 rfl) ?_
            refine lv_iconst (v := 0) hx hb dX11_load_127 (by decide) ?_
            obtain ⟨h24, σ23, eσ23, hf⟩ := wrK_e hf
            refine r_ast C hP hS aM_7 h24 dX11_load_128 (fun H locs hP hS => ?_)
            rw [← eσ23] at hP
            refine lv_aload_n hx hb dX11_load_129 rfl (lv_at hl 4 rfl) ?_
            refine r_get (k := 10) (v := .ref (ea E 8)) C hP oM_0 rfl iX11 (by decide) wm_t1029 rfl rfl dX11_load_130 ?_
            refine lv_iload hx hb dX11_load_133 (lv_at hl 0 rfl) ?_
            refine lv_iconst (v := 0) hx hb dX11_load_135 (by decide) ?_
            obtain ⟨h26, σ25, eσ25, hf⟩ := wrK_e hf
            refine r_zast C hP hS aM_8 h26 dX11_load_136 (fun H locs hP hS => ?_)
            rw [← eσ25] at hP
            refine lv_aload_n hx hb dX11_load_137 rfl (lv_at hl 4 rfl) ?_
            refine r_get (k := 5) (v := .ref (ea E 3)) C hP oM_0 rfl iX11 (by decide) wm_t1024 rfl rfl dX11_load_138 ?_
            refine lv_iload hx hb dX11_load_141 (lv_at hl 1 rfl) ?_
            refine lv_iconst (v := 0) hx hb dX11_load_143 (by decide) ?_
            obtain ⟨h28, σ27, eσ27, hf⟩ := wrK_e hf
            refine r_ast C hP hS aM_3 h28 dX11_load_144 (fun H locs hP hS => ?_)
            rw [← eσ27] at hP
            refine lv_aload_n hx hb dX11_load_145 rfl (lv_at hl 4 rfl) ?_
            refine r_get (k := 6) (v := .ref (ea E 4)) C hP oM_0 rfl iX11 (by decide) wm_t1025 rfl rfl dX11_load_146 ?_
            refine lv_iload hx hb dX11_load_149 (lv_at hl 1 rfl) ?_
            refine lv_iconst (v := 0) hx hb dX11_load_151 (by decide) ?_
            obtain ⟨h30, σ29, eσ29, hf⟩ := wrK_e hf
            refine r_ast C hP hS aM_4 h30 dX11_load_152 (fun H locs hP hS => ?_)
            rw [← eσ29] at hP
            refine lv_iconst (v := 1) hx hb dX11_load_153 (by decide) ?_
            cases hf
            exact r_zret C rfl hP hS dX11_load_154
          · replace hf := it_t c10 hf
            refine lv_iconst (v := 0) hx hb dX11_load_63 (by decide) ?_
            cases hf
            exact r_zret C rfl hP hS dX11_load_64
def fX11_arm_32 (σ : St) (x1 : Int32) (x2 : Int32) (y0 : Int32) (y1 : Int32) (y2 : Int32) : Option (Int32 × St) :=
(if (fX11_isIn y2 y1 y0) = 0 then
some (0, σ)
else
(if x1 = 7 then
(nmS (st_put σ 0 45 x2) fun σ5 =>
some (1, σ5))
else
(wrK 7 σ 27 x1 x2 fun σ3 =>
some (1, σ3))))
set_option maxHeartbeats 4000000 in
theorem b_fX11_arm_32 {E : Ev} {l : Launch} {p : Program} {e : Env} {s : State} {m : MethodId} {args : Array Value} {below : List Frame} {meth : Method} {c : Code} (C : CX false E RX11 cX11_arm 3 (some .boolean) p s m args meth c) {rr : Int32} {sr : St} : ∀ (σ : St) (x1 : Int32) (x2 : Int32) (y0 : Int32) (y1 : Int32) (y2 : Int32), fX11_arm_32 σ x1 x2 y0 y1 y2 = some (rr, sr) → GW false l (rmD 2) E 3 p e s m args below meth c (MQ below (QI false E rr sr s.heap.size) args s 0 0 (aW false E s.heap.size)) σ 32 [(0, .ref (ea E 0)), (1, .int x1), (2, .int x2)] [.int y0, .int y1, .int y2, .ref (ea E 0)] := by
  intro σ x1 x2 y0 y1 y2 hf H locs ls hP hS hl
  obtain ⟨hx, hb, hr, hml, hown, hts, hlocks, hK, hX, hj⟩ := id C
  unfold fX11_arm_32 at hf
  refine r_cVi (n := 3) (As := [.int y2, .int y1, .int y0]) (rest := []) C (c_fX11_isIn hj σ H.size y2 y1 y0) oM_0 rfl gv_RX11_144 (by decide +kernel) ⟨rfl, rfl, by decide, by decide⟩ rfl rfl (Nat.le_of_ble_eq_true rfl) dX11_arm_32 hP hS hl.1 (fun H locs hP hS => ?_)
  refine lv_if_ne (tgt := 40) hx hb dX11_arm_35 (by decide) (fun c1 => ?_) (fun c1 => ?_)
  · replace hf := it_f c1 hf
    refine lv_iload_n hx hb dX11_arm_40 rfl (lv_at hl 1 rfl) ?_
    refine lv_bipush (v := 7) hx hb dX11_arm_41 (by decide) ?_
    refine lv_icmp_ne (tgt := 54) hx hb dX11_arm_43 (by decide) (fun c2 => ?_) (fun c2 => ?_)
    · replace hf := it_f c2 hf
      refine lv_aload_n hx hb dX11_arm_54 rfl (lv_at hl 0 rfl) ?_
      refine r_get (k := 44) (v := .ref (ea E 27)) C hP oM_0 rfl iX11 (by decide) wm_t1063 rfl rfl dX11_arm_55 ?_
      refine lv_iload_n hx hb dX11_arm_58 rfl (lv_at hl 1 rfl) ?_
      refine lv_iload_n hx hb dX11_arm_59 rfl (lv_at hl 2 rfl) ?_
      obtain ⟨h4, σ3, eσ3, hf⟩ := wrK_e hf
      refine r_ast C hP hS aM_27 h4 dX11_arm_60 (fun H locs hP hS => ?_)
      rw [← eσ3] at hP
      refine lv_iconst (v := 1) hx hb dX11_arm_61 (by decide) ?_
      cases hf
      exact r_zret C rfl hP hS dX11_arm_62
    · replace hf := it_t c2 hf
      refine lv_aload_n hx hb dX11_arm_46 rfl (lv_at hl 0 rfl) ?_
      refine lv_iload_n hx hb dX11_arm_47 rfl (lv_at hl 2 rfl) ?_
      refine r_put (k := 45) (x := x2) C hP hS tyX11 tyX11_ok nmX11 oM_0 rfl iX11 (by decide) wm_t1064 rfl rfl sM_0_45 rfl rfl (Nat.le_of_ble_eq_true rfl) dX11_arm_48 (fun H locs hP hS => ?_)
      obtain ⟨σ5, eσ5, hf⟩ := nmS_e hf
      rw [← eσ5] at hP
      refine lv_goto (tgt := 61) hx hb dX11_arm_51 (by decide) ?_
      refine lv_iconst (v := 1) hx hb dX11_arm_61 (by decide) ?_
      cases hf
      exact r_zret C rfl hP hS dX11_arm_62
  · replace hf := it_t c1 hf
    refine lv_iconst (v := 0) hx hb dX11_arm_38 (by decide) ?_
    cases hf
    exact r_zret C rfl hP hS dX11_arm_39
def fX11_arm (σ : St) (a0 : Int32) (a1 : Int32) : Option (Int32 × St) :=
(nmS (st_put σ 0 0 0) fun σ1 =>
(if (fX11_isIn a0 0 7) = 0 then
some (0, σ1)
else
(if a0 = 7 then
fX11_arm_32 σ1 a0 a1 90 0 a1
else
fX11_arm_32 σ1 a0 a1 99 0 a1)))
set_option maxHeartbeats 4000000 in
theorem c_fX11_arm {E : Ev} {l : Launch} (hj : jW false E) (σ : St) (sz : Nat) (a0 : Int32) (a1 : Int32) {rr : Int32} {sr : St} (hf : fX11_arm σ a0 a1 = some (rr, sr)) : Met l yX11_arm (Cond.code yX11_arm cX11_arm 3 (some .boolean) :: gT) (rmD 2) (va_Pc [.ref (ea E 0), .int a0, .int a1] (preW false E σ sz)) (QI false E rr sr sz) 0 0 (aW false E sz) := by
  refine r_entry (QI false E rr sr) hj (by decide) [.ref (ea E 0), .int a0, .int a1] (Nat.le_of_ble_eq_true rfl) (fun p e s m args below meth c C => ?_)
  intro H locs ls hP hS hl
  have hl : lv_has ls 3 [(0, .ref (ea E 0)), (1, .int a0), (2, .int a1)] := hl
  obtain ⟨hx, hb, hr, hml, hown, hts, hlocks, hK, hX, hj⟩ := id C
  unfold fX11_arm at hf
  refine lv_aload_n hx hb dX11_arm_0 rfl (lv_at hl 0 rfl) ?_
  refine lv_iconst (v := 0) hx hb dX11_arm_1 (by decide) ?_
  refine r_put (k := 0) (x := 0) C hP hS tyX11 tyX11_ok nmX11 oM_0 rfl iX11 (by decide) wm_t1019 rfl rfl sM_0_0 rfl rfl (Nat.le_of_ble_eq_true rfl) dX11_arm_2 (fun H locs hP hS => ?_)
  obtain ⟨σ1, eσ1, hf⟩ := nmS_e hf
  rw [← eσ1] at hP
  refine lv_aload_n hx hb dX11_arm_5 rfl (lv_at hl 0 rfl) ?_
  refine lv_iload_n hx hb dX11_arm_6 rfl (lv_at hl 1 rfl) ?_
  refine lv_iconst (v := 0) hx hb dX11_arm_7 (by decide) ?_
  refine lv_bipush (v := 7) hx hb dX11_arm_8 (by decide) ?_
  refine r_cVi (n := 3) (As := [.int a0, .int 0, .int 7]) (rest := []) C (c_fX11_isIn hj σ1 H.size a0 0 7) oM_0 rfl gv_RX11_144 (by decide +kernel) ⟨rfl, rfl, by decide, by decide⟩ rfl rfl (Nat.le_of_ble_eq_true rfl) dX11_arm_10 hP hS hl.1 (fun H locs hP hS => ?_)
  refine lv_if_eq (tgt := 38) hx hb dX11_arm_13 (by decide) (fun c2 => ?_) (fun c2 => ?_)
  · replace hf := it_t c2 hf
    refine lv_iconst (v := 0) hx hb dX11_arm_38 (by decide) ?_
    cases hf
    exact r_zret C rfl hP hS dX11_arm_39
  · replace hf := it_f c2 hf
    refine lv_aload_n hx hb dX11_arm_16 rfl (lv_at hl 0 rfl) ?_
    refine lv_iload_n hx hb dX11_arm_17 rfl (lv_at hl 2 rfl) ?_
    refine lv_iconst (v := 0) hx hb dX11_arm_18 (by decide) ?_
    refine lv_iload_n hx hb dX11_arm_19 rfl (lv_at hl 1 rfl) ?_
    refine lv_bipush (v := 7) hx hb dX11_arm_20 (by decide) ?_
    refine lv_icmp_ne (tgt := 30) hx hb dX11_arm_22 (by decide) (fun c3 => ?_) (fun c3 => ?_)
    · replace hf := it_f c3 hf
      refine lv_bipush (v := 99) hx hb dX11_arm_30 (by decide) ?_
      exact b_fX11_arm_32 C σ1 a0 a1 99 0 a1 hf H locs ls hP hS (lv_sub hl [0, 1, 2] rfl)
    · replace hf := it_t c3 hf
      refine lv_bipush (v := 90) hx hb dX11_arm_25 (by decide) ?_
      refine lv_goto (tgt := 32) hx hb dX11_arm_27 (by decide) ?_
      exact b_fX11_arm_32 C σ1 a0 a1 90 0 a1 hf H locs ls hP hS (lv_sub hl [0, 1, 2] rfl)
def fX11_sail (σ : St) (a0 : Int32) : Option (Int32 × St) :=
(nmS (st_put σ 0 0 0) fun σ1 =>
(if (σ1 0 13) = 0 then
(nmS (st_put σ1 0 13 1) fun σ3 =>
(wrK 2 σ3 10 0 a0 fun σ4 =>
some (1, σ4)))
else
some (0, σ1)))
set_option maxHeartbeats 4000000 in
theorem c_fX11_sail {E : Ev} {l : Launch} (hj : jW false E) (σ : St) (sz : Nat) (a0 : Int32) {rr : Int32} {sr : St} (hf : fX11_sail σ a0 = some (rr, sr)) : Met l yX11_sail (Cond.code yX11_sail cX11_sail 2 (some .boolean) :: gT) (rmD 1) (va_Pc [.ref (ea E 0), .int a0] (preW false E σ sz)) (QI false E rr sr sz) 0 0 (aW false E sz) := by
  refine r_entry (QI false E rr sr) hj (by decide) [.ref (ea E 0), .int a0] (Nat.le_of_ble_eq_true rfl) (fun p e s m args below meth c C => ?_)
  intro H locs ls hP hS hl
  have hl : lv_has ls 2 [(0, .ref (ea E 0)), (1, .int a0)] := hl
  obtain ⟨hx, hb, hr, hml, hown, hts, hlocks, hK, hX, hj⟩ := id C
  unfold fX11_sail at hf
  refine lv_aload_n hx hb dX11_sail_0 rfl (lv_at hl 0 rfl) ?_
  refine lv_iconst (v := 0) hx hb dX11_sail_1 (by decide) ?_
  refine r_put (k := 0) (x := 0) C hP hS tyX11 tyX11_ok nmX11 oM_0 rfl iX11 (by decide) wm_t1019 rfl rfl sM_0_0 rfl rfl (Nat.le_of_ble_eq_true rfl) dX11_sail_2 (fun H locs hP hS => ?_)
  obtain ⟨σ1, eσ1, hf⟩ := nmS_e hf
  rw [← eσ1] at hP
  refine lv_aload_n hx hb dX11_sail_5 rfl (lv_at hl 0 rfl) ?_
  refine r_get (k := 13) (v := .int (σ1 0 13)) C hP oM_0 rfl iX11 (by decide) wm_t1032 rfl rfl dX11_sail_6 ?_
  refine lv_if_eq (tgt := 14) hx hb dX11_sail_9 (by decide) (fun c2 => ?_) (fun c2 => ?_)
  · replace hf := it_t c2 hf
    refine lv_aload_n hx hb dX11_sail_14 rfl (lv_at hl 0 rfl) ?_
    refine lv_iconst (v := 1) hx hb dX11_sail_15 (by decide) ?_
    refine r_put (k := 13) (x := 1) C hP hS tyX11 tyX11_ok nmX11 oM_0 rfl iX11 (by decide) wm_t1032 rfl rfl sM_0_13 rfl rfl (Nat.le_of_ble_eq_true rfl) dX11_sail_16 (fun H locs hP hS => ?_)
    obtain ⟨σ3, eσ3, hf⟩ := nmS_e hf
    rw [← eσ3] at hP
    refine lv_aload_n hx hb dX11_sail_19 rfl (lv_at hl 0 rfl) ?_
    refine r_get (k := 14) (v := .ref (ea E 10)) C hP oM_0 rfl iX11 (by decide) wm_t1033 rfl rfl dX11_sail_20 ?_
    refine lv_iconst (v := 0) hx hb dX11_sail_23 (by decide) ?_
    refine lv_iload_n hx hb dX11_sail_24 rfl (lv_at hl 1 rfl) ?_
    obtain ⟨h5, σ4, eσ4, hf⟩ := wrK_e hf
    refine r_ast C hP hS aM_10 h5 dX11_sail_25 (fun H locs hP hS => ?_)
    rw [← eσ4] at hP
    refine lv_iconst (v := 1) hx hb dX11_sail_26 (by decide) ?_
    cases hf
    exact r_zret C rfl hP hS dX11_sail_27
  · replace hf := it_f c2 hf
    refine lv_iconst (v := 0) hx hb dX11_sail_12 (by decide) ?_
    cases hf
    exact r_zret C rfl hP hS dX11_sail_13
def fX11_loaded_4B (σ : St) (rec4 : Int32 → Int32 → Option Int32) (x1 : Int32) (x2 : Int32) : Option Int32 :=
(if 144 ≤ x2 then
some x1
else
(rdK 288 (σ 5) x2 fun v2 =>
(if v2 ≤ 0 then
rec4 x1 (x2 + 1)
else
rec4 (x1 + 1) (x2 + 1))))
set_option maxHeartbeats 4000000 in
theorem b_fX11_loaded_4B {E : Ev} {l : Launch} {p : Program} {e : Env} {s : State} {m : MethodId} {args : Array Value} {below : List Frame} {meth : Method} {c : Code} (σ : St) (C : CX false E RX11 cX11_loaded 3 (some .int) p s m args meth c) {rr : Int32} (rec4 : Int32 → Int32 → Option Int32) (hr4 : ∀  (x1 : Int32) (x2 : Int32), rec4 x1 x2 = some rr → GW false l (rmD 1) E 3 p e s m args below meth c (MQ below (QI false E rr σ s.heap.size) args s 0 0 (aW false E s.heap.size)) σ 4 [(0, .ref (ea E 0)), (1, .int x1), (2, .int x2)] []) : ∀  (x1 : Int32) (x2 : Int32), fX11_loaded_4B σ rec4 x1 x2 = some rr → GW false l (rmD 1) E 3 p e s m args below meth c (MQ below (QI false E rr σ s.heap.size) args s 0 0 (aW false E s.heap.size)) σ 4 [(0, .ref (ea E 0)), (1, .int x1), (2, .int x2)] [] := by
  intro x1 x2 hf H locs ls hP hS hl
  obtain ⟨hx, hb, hr, hml, hown, hts, hlocks, hK, hX, hj⟩ := id C
  unfold fX11_loaded_4B at hf
  refine lv_iload_n hx hb dX11_loaded_4 rfl (lv_at hl 2 rfl) ?_
  refine lv_sipush (v := 144) hx hb dX11_loaded_5 (by decide) ?_
  refine lv_icmp_ge (tgt := 30) hx hb dX11_loaded_8 (by decide) (fun c1 => ?_) (fun c1 => ?_)
  · replace hf := it_t c1 hf
    refine lv_iload_n hx hb dX11_loaded_30 rfl (lv_at hl 1 rfl) ?_
    cases hf
    exact r_iret C hP hS dX11_loaded_31
  · replace hf := it_f c1 hf
    refine lv_aload_n hx hb dX11_loaded_11 rfl (lv_at hl 0 rfl) ?_
    refine r_get (k := 7) (v := .ref (ea E 5)) C hP oM_0 rfl iX11 (by decide) wm_t1026 rfl rfl dX11_loaded_12 ?_
    refine lv_iload_n hx hb dX11_loaded_15 rfl (lv_at hl 2 rfl) ?_
    have h3 := (rdK_e hf).1
    refine r_ald C hP aM_5 h3 dX11_loaded_16 ?_
    refine lv_topi (fun v2 ev2 => ?_)
    replace hf := rdK_n ev2 hf
    refine lv_if_le (tgt := 24) hx hb dX11_loaded_17 (by decide) (fun c4 => ?_) (fun c4 => ?_)
    · replace hf := it_t c4 hf
      refine lv_iinc (v := (x2 + 1)) (lv' := [(2, .int (x2 + 1)), (0, .ref (ea E 0)), (1, .int x1)]) hx hb dX11_loaded_24 hl (k := 2) rfl rfl (by decide) rfl (fun ls hl => ?_)
      refine lv_goto (tgt := 4) hx hb dX11_loaded_27 (by decide) ?_
      exact hr4 x1 (x2 + 1) hf H locs ls hP hS (lv_sub hl [1, 2, 0] rfl)
    · replace hf := it_f c4 hf
      refine lv_iload_n hx hb dX11_loaded_20 rfl (lv_at hl 1 rfl) ?_
      refine lv_iconst (v := 1) hx hb dX11_loaded_21 (by decide) ?_
      refine lv_iadd hx hb dX11_loaded_22 ?_
      refine lv_istore_n (lv' := [(1, .int (x1 + 1)), (0, .ref (ea E 0)), (2, .int x2)]) hx hb dX11_loaded_23 rfl hl (by decide) rfl (fun ls hl => ?_)
      refine lv_iinc (v := (x2 + 1)) (lv' := [(2, .int (x2 + 1)), (1, .int (x1 + 1)), (0, .ref (ea E 0))]) hx hb dX11_loaded_24 hl (k := 2) rfl rfl (by decide) rfl (fun ls hl => ?_)
      refine lv_goto (tgt := 4) hx hb dX11_loaded_27 (by decide) ?_
      exact hr4 (x1 + 1) (x2 + 1) hf H locs ls hP hS (lv_sub hl [2, 1, 0] rfl)
def fX11_loaded_4 (σ : St) : Nat → Int32 → Int32 → Option Int32
  | 0 => fun _ _ => none
  | n + 1 => fun x1 x2 => fX11_loaded_4B σ (fX11_loaded_4 σ n) x1 x2
theorem b_fX11_loaded_4 {E : Ev} {l : Launch} {p : Program} {e : Env} {s : State} {m : MethodId} {args : Array Value} {below : List Frame} {meth : Method} {c : Code} (σ : St) (C : CX false E RX11 cX11_loaded 3 (some .int) p s m args meth c) {rr : Int32} : ∀ (n : Nat) (x1 : Int32) (x2 : Int32), fX11_loaded_4 σ n x1 x2 = some rr → GW false l (rmD 1) E 3 p e s m args below meth c (MQ below (QI false E rr σ s.heap.size) args s 0 0 (aW false E s.heap.size)) σ 4 [(0, .ref (ea E 0)), (1, .int x1), (2, .int x2)] [] := by
  intro n
  induction n with
  | zero => intro x1 x2 hf; have hf : (none : Option _) = some _ := hf; cases hf
  | succ n ih => intro x1 x2 hf; exact b_fX11_loaded_4B σ C (fX11_loaded_4 σ n) ih x1 x2 hf
def fX11_loaded (σ : St) : Option Int32 :=
fX11_loaded_4 σ FU 0 0
set_option maxHeartbeats 4000000 in
theorem c_fX11_loaded {E : Ev} {l : Launch} (hj : jW false E) (σ : St) (sz : Nat) {rr : Int32} (hf : fX11_loaded σ = some rr) : Met l yX11_loaded (Cond.code yX11_loaded cX11_loaded 3 (some .int) :: gT) (rmD 1) (va_Pc [.ref (ea E 0)] (preW false E σ sz)) (QI false E rr σ sz) 0 0 (aW false E sz) := by
  refine r_entry (QI false E rr σ) hj (by decide) [.ref (ea E 0)] (Nat.le_of_ble_eq_true rfl) (fun p e s m args below meth c C => ?_)
  intro H locs ls hP hS hl
  have hl : lv_has ls 3 [(0, .ref (ea E 0))] := hl
  obtain ⟨hx, hb, hr, hml, hown, hts, hlocks, hK, hX, hj⟩ := id C
  unfold fX11_loaded at hf
  refine lv_iconst (v := 0) hx hb dX11_loaded_0 (by decide) ?_
  refine lv_istore_n (lv' := [(1, .int 0), (0, .ref (ea E 0))]) hx hb dX11_loaded_1 rfl hl (by decide) rfl (fun ls hl => ?_)
  refine lv_iconst (v := 0) hx hb dX11_loaded_2 (by decide) ?_
  refine lv_istore_n (lv' := [(2, .int 0), (1, .int 0), (0, .ref (ea E 0))]) hx hb dX11_loaded_3 rfl hl (by decide) rfl (fun ls hl => ?_)
  exact b_fX11_loaded_4 σ C FU 0 0 hf H locs ls hP hS (lv_sub hl [2, 1, 0] rfl)
def fX11_ship_138B (rec138 : St → Int32 → Int32 → Option (Int32 × St)) (σ : St) (x2 : Int32) (x3 : Int32) : Option (Int32 × St) :=
(if 144 ≤ x3 then
some (x2, σ)
else
(rdK 288 (σ 8) x3 fun v2 =>
(if v2 = 0 then
rec138 σ x2 (x3 + 1)
else
rec138 σ (x2 + 1) (x3 + 1))))
set_option maxHeartbeats 4000000 in
theorem b_fX11_ship_138B {E : Ev} {l : Launch} {p : Program} {e : Env} {s : State} {m : MethodId} {args : Array Value} {below : List Frame} {meth : Method} {c : Code} (C : CX false E RX11 cX11_ship 4 (some .int) p s m args meth c) {rr : Int32} {sr : St} (rec138 : St → Int32 → Int32 → Option (Int32 × St)) (hr138 : ∀ (σ : St) (x2 : Int32) (x3 : Int32), rec138 σ x2 x3 = some (rr, sr) → GW false l (rmD 3) E 4 p e s m args below meth c (MQ below (QI false E rr sr s.heap.size) args s 0 0 (aW false E s.heap.size)) σ 138 [(0, .ref (ea E 0)), (2, .int x2), (3, .int x3)] []) : ∀ (σ : St) (x2 : Int32) (x3 : Int32), fX11_ship_138B rec138 σ x2 x3 = some (rr, sr) → GW false l (rmD 3) E 4 p e s m args below meth c (MQ below (QI false E rr sr s.heap.size) args s 0 0 (aW false E s.heap.size)) σ 138 [(0, .ref (ea E 0)), (2, .int x2), (3, .int x3)] [] := by
  intro σ x2 x3 hf H locs ls hP hS hl
  obtain ⟨hx, hb, hr, hml, hown, hts, hlocks, hK, hX, hj⟩ := id C
  unfold fX11_ship_138B at hf
  refine lv_iload_n hx hb dX11_ship_138 rfl (lv_at hl 2 rfl) ?_
  refine lv_sipush (v := 144) hx hb dX11_ship_139 (by decide) ?_
  refine lv_icmp_ge (tgt := 164) hx hb dX11_ship_142 (by decide) (fun c1 => ?_) (fun c1 => ?_)
  · replace hf := it_t c1 hf
    refine lv_iload_n hx hb dX11_ship_164 rfl (lv_at hl 1 rfl) ?_
    cases hf
    exact r_iret C hP hS dX11_ship_165
  · replace hf := it_f c1 hf
    refine lv_aload_n hx hb dX11_ship_145 rfl (lv_at hl 0 rfl) ?_
    refine r_get (k := 10) (v := .ref (ea E 8)) C hP oM_0 rfl iX11 (by decide) wm_t1029 rfl rfl dX11_ship_146 ?_
    refine lv_iload_n hx hb dX11_ship_149 rfl (lv_at hl 2 rfl) ?_
    have h3 := (rdK_e hf).1
    refine r_zald C hP aM_8 h3 dX11_ship_150 ?_
    refine lv_topi (fun v2 ev2 => ?_)
    replace hf := rdK_n ev2 hf
    refine lv_if_eq (tgt := 158) hx hb dX11_ship_151 (by decide) (fun c4 => ?_) (fun c4 => ?_)
    · replace hf := it_t c4 hf
      refine lv_iinc (v := (x3 + 1)) (lv' := [(3, .int (x3 + 1)), (0, .ref (ea E 0)), (2, .int x2)]) hx hb dX11_ship_158 hl (k := 2) rfl rfl (by decide) rfl (fun ls hl => ?_)
      refine lv_goto (tgt := 138) hx hb dX11_ship_161 (by decide) ?_
      exact hr138 σ x2 (x3 + 1) hf H locs ls hP hS (lv_sub hl [1, 2, 0] rfl)
    · replace hf := it_f c4 hf
      refine lv_iload_n hx hb dX11_ship_154 rfl (lv_at hl 1 rfl) ?_
      refine lv_iconst (v := 1) hx hb dX11_ship_155 (by decide) ?_
      refine lv_iadd hx hb dX11_ship_156 ?_
      refine lv_istore_n (lv' := [(2, .int (x2 + 1)), (0, .ref (ea E 0)), (3, .int x3)]) hx hb dX11_ship_157 rfl hl (by decide) rfl (fun ls hl => ?_)
      refine lv_iinc (v := (x3 + 1)) (lv' := [(3, .int (x3 + 1)), (2, .int (x2 + 1)), (0, .ref (ea E 0))]) hx hb dX11_ship_158 hl (k := 2) rfl rfl (by decide) rfl (fun ls hl => ?_)
      refine lv_goto (tgt := 138) hx hb dX11_ship_161 (by decide) ?_
      exact hr138 σ (x2 + 1) (x3 + 1) hf H locs ls hP hS (lv_sub hl [2, 1, 0] rfl)
def fX11_ship_138 : Nat → St → Int32 → Int32 → Option (Int32 × St)
  | 0 => fun _ _ _ => none
  | n + 1 => fun σ x2 x3 => fX11_ship_138B (fX11_ship_138 n) σ x2 x3
theorem b_fX11_ship_138 {E : Ev} {l : Launch} {p : Program} {e : Env} {s : State} {m : MethodId} {args : Array Value} {below : List Frame} {meth : Method} {c : Code} (C : CX false E RX11 cX11_ship 4 (some .int) p s m args meth c) {rr : Int32} {sr : St} : ∀ (n : Nat) (σ : St) (x2 : Int32) (x3 : Int32), fX11_ship_138 n σ x2 x3 = some (rr, sr) → GW false l (rmD 3) E 4 p e s m args below meth c (MQ below (QI false E rr sr s.heap.size) args s 0 0 (aW false E s.heap.size)) σ 138 [(0, .ref (ea E 0)), (2, .int x2), (3, .int x3)] [] := by
  intro n
  induction n with
  | zero => intro σ x2 x3 hf; have hf : (none : Option _) = some _ := hf; cases hf
  | succ n ih => intro σ x2 x3 hf; exact b_fX11_ship_138B C (fX11_ship_138 n) ih σ x2 x3 hf
def fX11_ship (σ : St) (a0 : Int32) : Option (Int32 × St) :=
(nmS (st_put σ 0 0 0) fun σ1 =>
(if a0 = 0 then
some ((σ1 0 1), σ1)
else
(if a0 = 1 then
(if (σ1 0 13) = 0 then
some (0, σ1)
else
some (1, σ1))
else
(if a0 = 2 then
(cq (fX11_momentOf σ1 0) fun r23 =>
some (r23, σ1))
else
(if a0 = 3 then
(cq (fX11_weightOf σ1 0) fun r21 =>
some (r21, σ1))
else
(if a0 = 4 then
(rdK 2 (σ1 11) 0 fun v19 =>
some (v19, σ1))
else
(if a0 = 5 then
(rdK 2 (σ1 12) 0 fun v17 =>
some (v17, σ1))
else
(if a0 = 6 then
(rdK 2 (σ1 9) 0 fun v15 =>
some (v15, σ1))
else
(if a0 = 7 then
some ((σ1 0 11), σ1)
else
(if a0 = 8 then
(cq (fX11_loaded σ1) fun r13 =>
some (r13, σ1))
else
(if a0 = 10 then
some ((σ1 0 2), σ1)
else
(if a0 = 9 then
fX11_ship_138 FU σ1 0 0
else
some ((-1000000), σ1)))))))))))))
set_option maxHeartbeats 4000000 in
theorem c_fX11_ship {E : Ev} {l : Launch} (hj : jW false E) (σ : St) (sz : Nat) (a0 : Int32) {rr : Int32} {sr : St} (hf : fX11_ship σ a0 = some (rr, sr)) : Met l yX11_ship (Cond.code yX11_ship cX11_ship 4 (some .int) :: gT) (rmD 3) (va_Pc [.ref (ea E 0), .int a0] (preW false E σ sz)) (QI false E rr sr sz) 0 0 (aW false E sz) := by
  refine r_entry (QI false E rr sr) hj (by decide) [.ref (ea E 0), .int a0] (Nat.le_of_ble_eq_true rfl) (fun p e s m args below meth c C => ?_)
  intro H locs ls hP hS hl
  have hl : lv_has ls 4 [(0, .ref (ea E 0)), (1, .int a0)] := hl
  obtain ⟨hx, hb, hr, hml, hown, hts, hlocks, hK, hX, hj⟩ := id C
  unfold fX11_ship at hf
  refine lv_aload_n hx hb dX11_ship_0 rfl (lv_at hl 0 rfl) ?_
  refine lv_iconst (v := 0) hx hb dX11_ship_1 (by decide) ?_
  refine r_put (k := 0) (x := 0) C hP hS tyX11 tyX11_ok nmX11 oM_0 rfl iX11 (by decide) wm_t1019 rfl rfl sM_0_0 rfl rfl (Nat.le_of_ble_eq_true rfl) dX11_ship_2 (fun H locs hP hS => ?_)
  obtain ⟨σ1, eσ1, hf⟩ := nmS_e hf
  rw [← eσ1] at hP
  refine lv_iload_n hx hb dX11_ship_5 rfl (lv_at hl 1 rfl) ?_
  refine lv_if_ne (tgt := 14) hx hb dX11_ship_6 (by decide) (fun c2 => ?_) (fun c2 => ?_)
  · replace hf := it_f c2 hf
    refine lv_iload_n hx hb dX11_ship_14 rfl (lv_at hl 1 rfl) ?_
    refine lv_iconst (v := 1) hx hb dX11_ship_15 (by decide) ?_
    refine lv_icmp_ne (tgt := 32) hx hb dX11_ship_16 (by decide) (fun c3 => ?_) (fun c3 => ?_)
    · replace hf := it_f c3 hf
      refine lv_iload_n hx hb dX11_ship_32 rfl (lv_at hl 1 rfl) ?_
      refine lv_iconst (v := 2) hx hb dX11_ship_33 (by decide) ?_
      refine lv_icmp_ne (tgt := 43) hx hb dX11_ship_34 (by decide) (fun c4 => ?_) (fun c4 => ?_)
      · replace hf := it_f c4 hf
        refine lv_iload_n hx hb dX11_ship_43 rfl (lv_at hl 1 rfl) ?_
        refine lv_iconst (v := 3) hx hb dX11_ship_44 (by decide) ?_
        refine lv_icmp_ne (tgt := 54) hx hb dX11_ship_45 (by decide) (fun c5 => ?_) (fun c5 => ?_)
        · replace hf := it_f c5 hf
          refine lv_iload_n hx hb dX11_ship_54 rfl (lv_at hl 1 rfl) ?_
          refine lv_iconst (v := 4) hx hb dX11_ship_55 (by decide) ?_
          refine lv_icmp_ne (tgt := 66) hx hb dX11_ship_56 (by decide) (fun c6 => ?_) (fun c6 => ?_)
          · replace hf := it_f c6 hf
            refine lv_iload_n hx hb dX11_ship_66 rfl (lv_at hl 1 rfl) ?_
            refine lv_iconst (v := 5) hx hb dX11_ship_67 (by decide) ?_
            refine lv_icmp_ne (tgt := 78) hx hb dX11_ship_68 (by decide) (fun c7 => ?_) (fun c7 => ?_)
            · replace hf := it_f c7 hf
              refine lv_iload_n hx hb dX11_ship_78 rfl (lv_at hl 1 rfl) ?_
              refine lv_bipush (v := 6) hx hb dX11_ship_79 (by decide) ?_
              refine lv_icmp_ne (tgt := 91) hx hb dX11_ship_81 (by decide) (fun c8 => ?_) (fun c8 => ?_)
              · replace hf := it_f c8 hf
                refine lv_iload_n hx hb dX11_ship_91 rfl (lv_at hl 1 rfl) ?_
                refine lv_bipush (v := 7) hx hb dX11_ship_92 (by decide) ?_
                refine lv_icmp_ne (tgt := 102) hx hb dX11_ship_94 (by decide) (fun c9 => ?_) (fun c9 => ?_)
                · replace hf := it_f c9 hf
                  refine lv_iload_n hx hb dX11_ship_102 rfl (lv_at hl 1 rfl) ?_
                  refine lv_bipush (v := 8) hx hb dX11_ship_103 (by decide) ?_
                  refine lv_icmp_ne (tgt := 113) hx hb dX11_ship_105 (by decide) (fun c10 => ?_) (fun c10 => ?_)
                  · replace hf := it_f c10 hf
                    refine lv_iload_n hx hb dX11_ship_113 rfl (lv_at hl 1 rfl) ?_
                    refine lv_bipush (v := 10) hx hb dX11_ship_114 (by decide) ?_
                    refine lv_icmp_ne (tgt := 124) hx hb dX11_ship_116 (by decide) (fun c11 => ?_) (fun c11 => ?_)
                    · replace hf := it_f c11 hf
                      refine lv_iload_n hx hb dX11_ship_124 rfl (lv_at hl 1 rfl) ?_
                      refine lv_bipush (v := 9) hx hb dX11_ship_125 (by decide) ?_
                      refine lv_icmp_eq (tgt := 134) hx hb dX11_ship_127 (by decide) (fun c12 => ?_) (fun c12 => ?_)
                      · replace hf := it_t c12 hf
                        refine lv_iconst (v := 0) hx hb dX11_ship_134 (by decide) ?_
                        refine lv_istore_n (lv' := [(2, .int 0), (0, .ref (ea E 0)), (1, .int a0)]) hx hb dX11_ship_135 rfl hl (by decide) rfl (fun ls hl => ?_)
                        refine lv_iconst (v := 0) hx hb dX11_ship_136 (by decide) ?_
                        refine lv_istore_n (lv' := [(3, .int 0), (2, .int 0), (0, .ref (ea E 0)), (1, .int a0)]) hx hb dX11_ship_137 rfl hl (by decide) rfl (fun ls hl => ?_)
                        exact b_fX11_ship_138 C FU σ1 0 0 hf H locs ls hP hS (lv_sub hl [2, 1, 0] rfl)
                      · replace hf := it_f c12 hf
                        refine lv_ldcw (v := (-1000000)) hx hb hown (hts _ wm_t1361) dX11_ship_130 ?_
                        cases hf
                        exact r_iret C hP hS dX11_ship_133
                    · replace hf := it_t c11 hf
                      refine lv_aload_n hx hb dX11_ship_119 rfl (lv_at hl 0 rfl) ?_
                      refine r_get (k := 2) (v := .int (σ1 0 2)) C hP oM_0 rfl iX11 (by decide) wm_t1021 rfl rfl dX11_ship_120 ?_
                      cases hf
                      exact r_iret C hP hS dX11_ship_123
                  · replace hf := it_t c10 hf
                    refine lv_aload_n hx hb dX11_ship_108 rfl (lv_at hl 0 rfl) ?_
                    obtain ⟨r13, hc14, hf⟩ := cq_e hf
                    refine r_cVi (n := 0) (As := []) (rest := []) C (c_fX11_loaded hj σ1 H.size hc14) oM_0 rfl gv_RX11_353 (by decide +kernel) ⟨rfl, rfl, by decide, by decide⟩ rfl rfl (Nat.le_of_ble_eq_true rfl) dX11_ship_109 hP hS hl.1 (fun H locs hP hS => ?_)
                    cases hf
                    exact r_iret C hP hS dX11_ship_112
                · replace hf := it_t c9 hf
                  refine lv_aload_n hx hb dX11_ship_97 rfl (lv_at hl 0 rfl) ?_
                  refine r_get (k := 11) (v := .int (σ1 0 11)) C hP oM_0 rfl iX11 (by decide) wm_t1030 rfl rfl dX11_ship_98 ?_
                  cases hf
                  exact r_iret C hP hS dX11_ship_101
              · replace hf := it_t c8 hf
                refine lv_aload_n hx hb dX11_ship_84 rfl (lv_at hl 0 rfl) ?_
                refine r_get (k := 12) (v := .ref (ea E 9)) C hP oM_0 rfl iX11 (by decide) wm_t1031 rfl rfl dX11_ship_85 ?_
                refine lv_iconst (v := 0) hx hb dX11_ship_88 (by decide) ?_
                have h16 := (rdK_e hf).1
                refine r_ald C hP aM_9 h16 dX11_ship_89 ?_
                refine lv_topi (fun v15 ev15 => ?_)
                replace hf := rdK_n ev15 hf
                cases hf
                exact r_iret C hP hS dX11_ship_90
            · replace hf := it_t c7 hf
              refine lv_aload_n hx hb dX11_ship_71 rfl (lv_at hl 0 rfl) ?_
              refine r_get (k := 16) (v := .ref (ea E 12)) C hP oM_0 rfl iX11 (by decide) wm_t1035 rfl rfl dX11_ship_72 ?_
              refine lv_iconst (v := 0) hx hb dX11_ship_75 (by decide) ?_
              have h18 := (rdK_e hf).1
              refine r_ald C hP aM_12 h18 dX11_ship_76 ?_
              refine lv_topi (fun v17 ev17 => ?_)
              replace hf := rdK_n ev17 hf
              cases hf
              exact r_iret C hP hS dX11_ship_77
          · replace hf := it_t c6 hf
            refine lv_aload_n hx hb dX11_ship_59 rfl (lv_at hl 0 rfl) ?_
            refine r_get (k := 15) (v := .ref (ea E 11)) C hP oM_0 rfl iX11 (by decide) wm_t1034 rfl rfl dX11_ship_60 ?_
            refine lv_iconst (v := 0) hx hb dX11_ship_63 (by decide) ?_
            have h20 := (rdK_e hf).1
            refine r_ald C hP aM_11 h20 dX11_ship_64 ?_
            refine lv_topi (fun v19 ev19 => ?_)
            replace hf := rdK_n ev19 hf
            cases hf
            exact r_iret C hP hS dX11_ship_65
        · replace hf := it_t c5 hf
          refine lv_aload_n hx hb dX11_ship_48 rfl (lv_at hl 0 rfl) ?_
          refine lv_iconst (v := 0) hx hb dX11_ship_49 (by decide) ?_
          obtain ⟨r21, hc22, hf⟩ := cq_e hf
          refine r_cVi (n := 1) (As := [.int 0]) (rest := []) C (c_fX11_weightOf hj σ1 H.size 0 hc22) oM_0 rfl gv_RX11_332 (by decide +kernel) ⟨rfl, rfl, by decide, by decide⟩ rfl rfl (Nat.le_of_ble_eq_true rfl) dX11_ship_50 hP hS hl.1 (fun H locs hP hS => ?_)
          cases hf
          exact r_iret C hP hS dX11_ship_53
      · replace hf := it_t c4 hf
        refine lv_aload_n hx hb dX11_ship_37 rfl (lv_at hl 0 rfl) ?_
        refine lv_iconst (v := 0) hx hb dX11_ship_38 (by decide) ?_
        obtain ⟨r23, hc24, hf⟩ := cq_e hf
        refine r_cVi (n := 1) (As := [.int 0]) (rest := []) C (c_fX11_momentOf hj σ1 H.size 0 hc24) oM_0 rfl gv_RX11_329 (by decide +kernel) ⟨rfl, rfl, by decide, by decide⟩ rfl rfl (Nat.le_of_ble_eq_true rfl) dX11_ship_39 hP hS hl.1 (fun H locs hP hS => ?_)
        cases hf
        exact r_iret C hP hS dX11_ship_42
    · replace hf := it_t c3 hf
      refine lv_aload_n hx hb dX11_ship_19 rfl (lv_at hl 0 rfl) ?_
      refine r_get (k := 13) (v := .int (σ1 0 13)) C hP oM_0 rfl iX11 (by decide) wm_t1032 rfl rfl dX11_ship_20 ?_
      refine lv_if_eq (tgt := 30) hx hb dX11_ship_23 (by decide) (fun c25 => ?_) (fun c25 => ?_)
      · replace hf := it_t c25 hf
        refine lv_iconst (v := 0) hx hb dX11_ship_30 (by decide) ?_
        cases hf
        exact r_iret C hP hS dX11_ship_31
      · replace hf := it_f c25 hf
        refine lv_iconst (v := 1) hx hb dX11_ship_26 (by decide) ?_
        refine lv_goto (tgt := 31) hx hb dX11_ship_27 (by decide) ?_
        cases hf
        exact r_iret C hP hS dX11_ship_31
  · replace hf := it_t c2 hf
    refine lv_aload_n hx hb dX11_ship_9 rfl (lv_at hl 0 rfl) ?_
    refine r_get (k := 1) (v := .int (σ1 0 1)) C hP oM_0 rfl iX11 (by decide) wm_t1020 rfl rfl dX11_ship_10 ?_
    cases hf
    exact r_iret C hP hS dX11_ship_13
def fX11_arms (σ : St) (a0 : Int32) : Option (Int32 × St) :=
(nmS (st_put σ 0 0 0) fun σ1 =>
(if (fX11_isIn a0 0 60) = 0 then
some ((-1), σ1)
else
(cq (fX11_armAt σ1 a0) fun r3 =>
some (r3, σ1))))
set_option maxHeartbeats 4000000 in
theorem c_fX11_arms {E : Ev} {l : Launch} (hj : jW false E) (σ : St) (sz : Nat) (a0 : Int32) {rr : Int32} {sr : St} (hf : fX11_arms σ a0 = some (rr, sr)) : Met l yX11_arms (Cond.code yX11_arms cX11_arms 2 (some .int) :: gT) (rmD 2) (va_Pc [.ref (ea E 0), .int a0] (preW false E σ sz)) (QI false E rr sr sz) 0 0 (aW false E sz) := by
  refine r_entry (QI false E rr sr) hj (by decide) [.ref (ea E 0), .int a0] (Nat.le_of_ble_eq_true rfl) (fun p e s m args below meth c C => ?_)
  intro H locs ls hP hS hl
  have hl : lv_has ls 2 [(0, .ref (ea E 0)), (1, .int a0)] := hl
  obtain ⟨hx, hb, hr, hml, hown, hts, hlocks, hK, hX, hj⟩ := id C
  unfold fX11_arms at hf
  refine lv_aload_n hx hb dX11_arms_0 rfl (lv_at hl 0 rfl) ?_
  refine lv_iconst (v := 0) hx hb dX11_arms_1 (by decide) ?_
  refine r_put (k := 0) (x := 0) C hP hS tyX11 tyX11_ok nmX11 oM_0 rfl iX11 (by decide) wm_t1019 rfl rfl sM_0_0 rfl rfl (Nat.le_of_ble_eq_true rfl) dX11_arms_2 (fun H locs hP hS => ?_)
  obtain ⟨σ1, eσ1, hf⟩ := nmS_e hf
  rw [← eσ1] at hP
  refine lv_aload_n hx hb dX11_arms_5 rfl (lv_at hl 0 rfl) ?_
  refine lv_iload_n hx hb dX11_arms_6 rfl (lv_at hl 1 rfl) ?_
  refine lv_iconst (v := 0) hx hb dX11_arms_7 (by decide) ?_
  refine lv_bipush (v := 60) hx hb dX11_arms_8 (by decide) ?_
  refine r_cVi (n := 3) (As := [.int a0, .int 0, .int 60]) (rest := []) C (c_fX11_isIn hj σ1 H.size a0 0 60) oM_0 rfl gv_RX11_144 (by decide +kernel) ⟨rfl, rfl, by decide, by decide⟩ rfl rfl (Nat.le_of_ble_eq_true rfl) dX11_arms_10 hP hS hl.1 (fun H locs hP hS => ?_)
  refine lv_if_eq (tgt := 24) hx hb dX11_arms_13 (by decide) (fun c2 => ?_) (fun c2 => ?_)
  · replace hf := it_t c2 hf
    refine lv_iconst (v := (-1)) hx hb dX11_arms_24 (by decide) ?_
    cases hf
    exact r_iret C hP hS dX11_arms_25
  · replace hf := it_f c2 hf
    refine lv_aload_n hx hb dX11_arms_16 rfl (lv_at hl 0 rfl) ?_
    refine lv_iload_n hx hb dX11_arms_17 rfl (lv_at hl 1 rfl) ?_
    obtain ⟨r3, hc4, hf⟩ := cq_e hf
    refine r_cVi (n := 1) (As := [.int a0]) (rest := []) C (c_fX11_armAt hj σ1 H.size a0 hc4) oM_0 rfl gv_RX11_317 (by decide +kernel) ⟨rfl, rfl, by decide, by decide⟩ rfl rfl (Nat.le_of_ble_eq_true rfl) dX11_arms_18 hP hS hl.1 (fun H locs hP hS => ?_)
    refine lv_goto (tgt := 25) hx hb dX11_arms_21 (by decide) ?_
    cases hf
    exact r_iret C hP hS dX11_arms_25
def fX11_worstOf_4B (rec4 : Int32 → Int32 → Int32 → Option Int32) (x1 : Int32) (x2 : Int32) (x3 : Int32) : Option Int32 :=
(if x1 ≤ x3 then
some x2
else
rec4 x1 ((x2 + 5) - (2 * (x3 / 6))) (x3 + 1))
set_option maxHeartbeats 4000000 in
theorem b_fX11_worstOf_4B {E : Ev} {l : Launch} {p : Program} {e : Env} {s : State} {m : MethodId} {args : Array Value} {below : List Frame} {meth : Method} {c : Code} (σ : St) (C : CX false E RX11 cX11_worstOf 4 (some .int) p s m args meth c) {rr : Int32} (rec4 : Int32 → Int32 → Int32 → Option Int32) (hr4 : ∀  (x1 : Int32) (x2 : Int32) (x3 : Int32), rec4 x1 x2 x3 = some rr → GW false l (rmD 1) E 4 p e s m args below meth c (MQ below (QI false E rr σ s.heap.size) args s 0 0 (aW false E s.heap.size)) σ 4 [(1, .int x1), (2, .int x2), (3, .int x3)] []) : ∀  (x1 : Int32) (x2 : Int32) (x3 : Int32), fX11_worstOf_4B rec4 x1 x2 x3 = some rr → GW false l (rmD 1) E 4 p e s m args below meth c (MQ below (QI false E rr σ s.heap.size) args s 0 0 (aW false E s.heap.size)) σ 4 [(1, .int x1), (2, .int x2), (3, .int x3)] [] := by
  intro x1 x2 x3 hf H locs ls hP hS hl
  obtain ⟨hx, hb, hr, hml, hown, hts, hlocks, hK, hX, hj⟩ := id C
  unfold fX11_worstOf_4B at hf
  refine lv_iload_n hx hb dX11_worstOf_4 rfl (lv_at hl 2 rfl) ?_
  refine lv_iload_n hx hb dX11_worstOf_5 rfl (lv_at hl 0 rfl) ?_
  refine lv_icmp_ge (tgt := 26) hx hb dX11_worstOf_6 (by decide) (fun c1 => ?_) (fun c1 => ?_)
  · replace hf := it_t c1 hf
    refine lv_iload_n hx hb dX11_worstOf_26 rfl (lv_at hl 1 rfl) ?_
    cases hf
    exact r_iret C hP hS dX11_worstOf_27
  · replace hf := it_f c1 hf
    refine lv_iload_n hx hb dX11_worstOf_9 rfl (lv_at hl 1 rfl) ?_
    refine lv_iconst (v := 5) hx hb dX11_worstOf_10 (by decide) ?_
    refine lv_iadd hx hb dX11_worstOf_11 ?_
    refine lv_iconst (v := 2) hx hb dX11_worstOf_12 (by decide) ?_
    refine lv_iload_n hx hb dX11_worstOf_13 rfl (lv_at hl 2 rfl) ?_
    refine lv_bipush (v := 6) hx hb dX11_worstOf_14 (by decide) ?_
    refine lv_idiv hx hb dX11_worstOf_16 (by decide) ?_
    refine lv_imul hx hb dX11_worstOf_17 ?_
    refine lv_isub hx hb dX11_worstOf_18 ?_
    refine lv_istore_n (lv' := [(2, .int ((x2 + 5) - (2 * (x3 / 6)))), (1, .int x1), (3, .int x3)]) hx hb dX11_worstOf_19 rfl hl (by decide) rfl (fun ls hl => ?_)
    refine lv_iinc (v := (x3 + 1)) (lv' := [(3, .int (x3 + 1)), (2, .int ((x2 + 5) - (2 * (x3 / 6)))), (1, .int x1)]) hx hb dX11_worstOf_20 hl (k := 2) rfl rfl (by decide) rfl (fun ls hl => ?_)
    refine lv_goto (tgt := 4) hx hb dX11_worstOf_23 (by decide) ?_
    exact hr4 x1 ((x2 + 5) - (2 * (x3 / 6))) (x3 + 1) hf H locs ls hP hS (lv_sub hl [2, 1, 0] rfl)
def fX11_worstOf_4 : Nat → Int32 → Int32 → Int32 → Option Int32
  | 0 => fun _ _ _ => none
  | n + 1 => fun x1 x2 x3 => fX11_worstOf_4B (fX11_worstOf_4 n) x1 x2 x3
theorem b_fX11_worstOf_4 {E : Ev} {l : Launch} {p : Program} {e : Env} {s : State} {m : MethodId} {args : Array Value} {below : List Frame} {meth : Method} {c : Code} (σ : St) (C : CX false E RX11 cX11_worstOf 4 (some .int) p s m args meth c) {rr : Int32} : ∀ (n : Nat) (x1 : Int32) (x2 : Int32) (x3 : Int32), fX11_worstOf_4 n x1 x2 x3 = some rr → GW false l (rmD 1) E 4 p e s m args below meth c (MQ below (QI false E rr σ s.heap.size) args s 0 0 (aW false E s.heap.size)) σ 4 [(1, .int x1), (2, .int x2), (3, .int x3)] [] := by
  intro n
  induction n with
  | zero => intro x1 x2 x3 hf; have hf : (none : Option _) = some _ := hf; cases hf
  | succ n ih => intro x1 x2 x3 hf; exact b_fX11_worstOf_4B σ C (fX11_worstOf_4 n) ih x1 x2 x3 hf
def fX11_worstOf (a0 : Int32) : Option Int32 :=
fX11_worstOf_4 FU a0 0 0
set_option maxHeartbeats 4000000 in
theorem c_fX11_worstOf {E : Ev} {l : Launch} (hj : jW false E) (σ : St) (sz : Nat) (a0 : Int32) {rr : Int32} (hf : fX11_worstOf a0 = some rr) : Met l yX11_worstOf (Cond.code yX11_worstOf cX11_worstOf 4 (some .int) :: gT) (rmD 1) (va_Pc [.ref (ea E 0), .int a0] (preW false E σ sz)) (QI false E rr σ sz) 0 0 (aW false E sz) := by
  refine r_entry (QI false E rr σ) hj (by decide) [.ref (ea E 0), .int a0] (Nat.le_of_ble_eq_true rfl) (fun p e s m args below meth c C => ?_)
  intro H locs ls hP hS hl
  have hl : lv_has ls 4 [(0, .ref (ea E 0)), (1, .int a0)] := hl
  obtain ⟨hx, hb, hr, hml, hown, hts, hlocks, hK, hX, hj⟩ := id C
  unfold fX11_worstOf at hf
  refine lv_iconst (v := 0) hx hb dX11_worstOf_0 (by decide) ?_
  refine lv_istore_n (lv' := [(2, .int 0), (0, .ref (ea E 0)), (1, .int a0)]) hx hb dX11_worstOf_1 rfl hl (by decide) rfl (fun ls hl => ?_)
  refine lv_iconst (v := 0) hx hb dX11_worstOf_2 (by decide) ?_
  refine lv_istore_n (lv' := [(3, .int 0), (2, .int 0), (0, .ref (ea E 0)), (1, .int a0)]) hx hb dX11_worstOf_3 rfl hl (by decide) rfl (fun ls hl => ?_)
  exact b_fX11_worstOf_4 σ C FU a0 0 0 hf H locs ls hP hS (lv_sub hl [3, 1, 0] rfl)
def fX11_worstKept (σ : St) (a0 : Int32) : Option (Int32 × St) :=
(rdK 37 (σ 29) a0 fun v1 =>
(if v1 = 0 then
(cq (fX11_worstOf a0) fun r6 =>
(wrK 37 σ 29 a0 (r6 + 1000) fun σ8 =>
(rdK 37 (σ8 29) a0 fun v10 =>
some ((v10 - 1000), σ8))))
else
(rdK 37 (σ 29) a0 fun v4 =>
some ((v4 - 1000), σ))))
set_option maxHeartbeats 4000000 in
theorem c_fX11_worstKept {E : Ev} {l : Launch} (hj : jW false E) (σ : St) (sz : Nat) (a0 : Int32) {rr : Int32} {sr : St} (hf : fX11_worstKept σ a0 = some (rr, sr)) : Met l yX11_worstKept (Cond.code yX11_worstKept cX11_worstKept 2 (some .int) :: gT) (rmD 2) (va_Pc [.ref (ea E 0), .int a0] (preW false E σ sz)) (QI false E rr sr sz) 0 0 (aW false E sz) := by
  refine r_entry (QI false E rr sr) hj (by decide) [.ref (ea E 0), .int a0] (Nat.le_of_ble_eq_true rfl) (fun p e s m args below meth c C => ?_)
  intro H locs ls hP hS hl
  have hl : lv_has ls 2 [(0, .ref (ea E 0)), (1, .int a0)] := hl
  obtain ⟨hx, hb, hr, hml, hown, hts, hlocks, hK, hX, hj⟩ := id C
  unfold fX11_worstKept at hf
  refine lv_aload_n hx hb dX11_worstKept_0 rfl (lv_at hl 0 rfl) ?_
  refine r_get (k := 47) (v := .ref (ea E 29)) C hP oM_0 rfl iX11 (by decide) wm_t1066 rfl rfl dX11_worstKept_1 ?_
  refine lv_iload_n hx hb dX11_worstKept_4 rfl (lv_at hl 1 rfl) ?_
  have h2 := (rdK_e hf).1
  refine r_ald C hP aM_29 h2 dX11_worstKept_5 ?_
  refine lv_topi (fun v1 ev1 => ?_)
  replace hf := rdK_n ev1 hf
  refine lv_if_ne (tgt := 24) hx hb dX11_worstKept_6 (by decide) (fun c3 => ?_) (fun c3 => ?_)
  · replace hf := it_f c3 hf
    refine lv_aload_n hx hb dX11_worstKept_24 rfl (lv_at hl 0 rfl) ?_
    refine r_get (k := 47) (v := .ref (ea E 29)) C hP oM_0 rfl iX11 (by decide) wm_t1066 rfl rfl dX11_worstKept_25 ?_
    refine lv_iload_n hx hb dX11_worstKept_28 rfl (lv_at hl 1 rfl) ?_
    have h5 := (rdK_e hf).1
    refine r_ald C hP aM_29 h5 dX11_worstKept_29 ?_
    refine lv_topi (fun v4 ev4 => ?_)
    replace hf := rdK_n ev4 hf
    refine lv_sipush (v := 1000) hx hb dX11_worstKept_30 (by decide) ?_
    refine lv_isub hx hb dX11_worstKept_33 ?_
    cases hf
    exact r_iret C hP hS dX11_worstKept_34
  · replace hf := it_t c3 hf
    refine lv_aload_n hx hb dX11_worstKept_9 rfl (lv_at hl 0 rfl) ?_
    refine r_get (k := 47) (v := .ref (ea E 29)) C hP oM_0 rfl iX11 (by decide) wm_t1066 rfl rfl dX11_worstKept_10 ?_
    refine lv_iload_n hx hb dX11_worstKept_13 rfl (lv_at hl 1 rfl) ?_
    refine lv_aload_n hx hb dX11_worstKept_14 rfl (lv_at hl 0 rfl) ?_
    refine lv_iload_n hx hb dX11_worstKept_15 rfl (lv_at hl 1 rfl) ?_
    obtain ⟨r6, hc7, hf⟩ := cq_e hf
    refine r_cVi (n := 1) (As := [.int a0]) (rest := [.int a0, .ref (ea E 29)]) C (c_fX11_worstOf hj σ H.size a0 hc7) oM_0 rfl gv_RX11_359 (by decide +kernel) ⟨rfl, rfl, by decide, by decide⟩ rfl rfl (Nat.le_of_ble_eq_true rfl) dX11_worstKept_16 hP hS hl.1 (fun H locs hP hS => ?_)
    refine lv_sipush (v := 1000) hx hb dX11_worstKept_19 (by decide) ?_
    refine lv_iadd hx hb dX11_worstKept_22 ?_
    obtain ⟨h9, σ8, eσ8, hf⟩ := wrK_e hf
    refine r_ast C hP hS aM_29 h9 dX11_worstKept_23 (fun H locs hP hS => ?_)
    rw [← eσ8] at hP
    refine lv_aload_n hx hb dX11_worstKept_24 rfl (lv_at hl 0 rfl) ?_
    refine r_get (k := 47) (v := .ref (ea E 29)) C hP oM_0 rfl iX11 (by decide) wm_t1066 rfl rfl dX11_worstKept_25 ?_
    refine lv_iload_n hx hb dX11_worstKept_28 rfl (lv_at hl 1 rfl) ?_
    have h11 := (rdK_e hf).1
    refine r_ald C hP aM_29 h11 dX11_worstKept_29 ?_
    refine lv_topi (fun v10 ev10 => ?_)
    replace hf := rdK_n ev10 hf
    refine lv_sipush (v := 1000) hx hb dX11_worstKept_30 (by decide) ?_
    refine lv_isub hx hb dX11_worstKept_33 ?_
    cases hf
    exact r_iret C hP hS dX11_worstKept_34
