def fX11_let_83B (rec68 : St → Int32 → Int32 → Int32 → Int32 → Int32 → Option (Int32 × St)) (rec83 : St → Int32 → Int32 → Int32 → Int32 → Int32 → Int32 → Option (Int32 × St)) (σ : St) (x1 : Int32) (x2 : Int32) (x3 : Int32) (x4 : Int32) (x5 : Int32) (x6 : Int32) : Option (Int32 × St) :=
(if 2100 ≤ x6 then
rec68 σ x1 x2 x3 x4 (x5 + 1)
else
(wrK 16 σ 24 9 x5 fun σ2 =>
(wrK 16 σ2 24 10 (x6 / 100) fun σ4 =>
(wrK 16 σ4 24 11 ((x6 / 10) - (x6 / 10) / 10 * 10) fun σ6 =>
(wrK 16 σ6 24 5 (x6 - x6 / 10 * 10) fun σ8 =>
(cb (fX11_isSo σ8 4 (-1)) fun r10 σ12 =>
(if r10 = 0 then
rec83 σ12 x1 x2 x3 x4 x5 (x6 + 1)
else
(cb (fX11_isSo σ12 5 (-1)) fun r14 σ16 =>
(if r14 = 0 then
(if x3 = 0 then
(nm ((((1000000 * x5) + (10000 * (x6 / 100))) + (100 * ((x6 / 10) - (x6 / 10) / 10 * 10))) + (x6 - x6 / 10 * 10)) fun v19 =>
rec83 σ16 x1 x2 (x3 + 1) v19 x5 (x6 + 1))
else
rec83 σ16 x1 x2 (x3 + 1) x4 x5 (x6 + 1))
else
rec83 σ16 x1 x2 x3 x4 x5 (x6 + 1))))))))))
set_option maxHeartbeats 4000000 in
theorem b_fX11_let_83B {E : Ev} {l : Launch} {p : Program} {e : Env} {s : State} {m : MethodId} {args : Array Value} {below : List Frame} {meth : Method} {c : Code} (C : CX false E RX11 cX11_let 7 (some .int) p s m args meth c) {rr : Int32} {sr : St} (rec68 : St → Int32 → Int32 → Int32 → Int32 → Int32 → Option (Int32 × St)) (hr68 : ∀ (σ : St) (x1 : Int32) (x2 : Int32) (x3 : Int32) (x4 : Int32) (x5 : Int32), rec68 σ x1 x2 x3 x4 x5 = some (rr, sr) → GW false l (rmD 4) E 7 p e s m args below meth c (MQ below (QI false E rr sr s.heap.size) args s 0 0 (aW false E s.heap.size)) σ 68 [(0, .ref (ea E 0)), (1, .int x1), (2, .int x2), (3, .int x3), (4, .int x4), (5, .int x5)] []) (rec83 : St → Int32 → Int32 → Int32 → Int32 → Int32 → Int32 → Option (Int32 × St)) (hr83 : ∀ (σ : St) (x1 : Int32) (x2 : Int32) (x3 : Int32) (x4 : Int32) (x5 : Int32) (x6 : Int32), rec83 σ x1 x2 x3 x4 x5 x6 = some (rr, sr) → GW false l (rmD 4) E 7 p e s m args below meth c (MQ below (QI false E rr sr s.heap.size) args s 0 0 (aW false E s.heap.size)) σ 83 [(0, .ref (ea E 0)), (1, .int x1), (2, .int x2), (3, .int x3), (4, .int x4), (5, .int x5), (6, .int x6)] []) : ∀ (σ : St) (x1 : Int32) (x2 : Int32) (x3 : Int32) (x4 : Int32) (x5 : Int32) (x6 : Int32), fX11_let_83B rec68 rec83 σ x1 x2 x3 x4 x5 x6 = some (rr, sr) → GW false l (rmD 4) E 7 p e s m args below meth c (MQ below (QI false E rr sr s.heap.size) args s 0 0 (aW false E s.heap.size)) σ 83 [(0, .ref (ea E 0)), (1, .int x1), (2, .int x2), (3, .int x3), (4, .int x4), (5, .int x5), (6, .int x6)] [] := by
  intro σ x1 x2 x3 x4 x5 x6 hf H locs ls hP hS hl
  obtain ⟨hx, hb, hr, hml, hown, hts, hlocks, hK, hX, hj⟩ := id C
  unfold fX11_let_83B at hf
  refine lv_iload hx hb dX11_let_83 (lv_at hl 6 rfl) ?_
  refine lv_sipush (v := 2100) hx hb dX11_let_85 (by decide) ?_
  refine lv_icmp_ge (tgt := 209) hx hb dX11_let_88 (by decide) (fun c1 => ?_) (fun c1 => ?_)
  · replace hf := it_t c1 hf
    refine lv_iinc (v := (x5 + 1)) (lv' := [(5, .int (x5 + 1)), (0, .ref (ea E 0)), (1, .int x1), (2, .int x2), (3, .int x3), (4, .int x4), (6, .int x6)]) hx hb dX11_let_209 hl (k := 5) rfl rfl (by decide) rfl (fun ls hl => ?_)
    refine lv_goto (tgt := 68) hx hb dX11_let_212 (by decide) ?_
    exact hr68 σ x1 x2 x3 x4 (x5 + 1) hf H locs ls hP hS (lv_sub hl [1, 2, 3, 4, 5, 0] rfl)
  · replace hf := it_f c1 hf
    refine lv_aload_n hx hb dX11_let_91 rfl (lv_at hl 0 rfl) ?_
    refine r_get (k := 41) (v := .ref (ea E 24)) C hP oM_0 rfl iX11 (by decide) wm_t1058 rfl rfl dX11_let_92 ?_
    refine lv_bipush (v := 9) hx hb dX11_let_95 (by decide) ?_
    refine lv_iload hx hb dX11_let_97 (lv_at hl 5 rfl) ?_
    obtain ⟨h3, σ2, eσ2, hf⟩ := wrK_e hf
    refine r_ast C hP hS aM_24 h3 dX11_let_99 (fun H locs hP hS => ?_)
    rw [← eσ2] at hP
    refine lv_aload_n hx hb dX11_let_100 rfl (lv_at hl 0 rfl) ?_
    refine r_get (k := 41) (v := .ref (ea E 24)) C hP oM_0 rfl iX11 (by decide) wm_t1058 rfl rfl dX11_let_101 ?_
    refine lv_bipush (v := 10) hx hb dX11_let_104 (by decide) ?_
    refine lv_iload hx hb dX11_let_106 (lv_at hl 6 rfl) ?_
    refine lv_bipush (v := 100) hx hb dX11_let_108 (by decide) ?_
    refine lv_idiv hx hb dX11_let_110 (by decide) ?_
    obtain ⟨h5, σ4, eσ4, hf⟩ := wrK_e hf
    refine r_ast C hP hS aM_24 h5 dX11_let_111 (fun H locs hP hS => ?_)
    rw [← eσ4] at hP
    refine lv_aload_n hx hb dX11_let_112 rfl (lv_at hl 0 rfl) ?_
    refine r_get (k := 41) (v := .ref (ea E 24)) C hP oM_0 rfl iX11 (by decide) wm_t1058 rfl rfl dX11_let_113 ?_
    refine lv_bipush (v := 11) hx hb dX11_let_116 (by decide) ?_
    refine lv_iload hx hb dX11_let_118 (lv_at hl 6 rfl) ?_
    refine lv_bipush (v := 10) hx hb dX11_let_120 (by decide) ?_
    refine lv_idiv hx hb dX11_let_122 (by decide) ?_
    refine lv_bipush (v := 10) hx hb dX11_let_123 (by decide) ?_
    refine lv_irem hx hb dX11_let_125 (by decide) ?_
    obtain ⟨h7, σ6, eσ6, hf⟩ := wrK_e hf
    refine r_ast C hP hS aM_24 h7 dX11_let_126 (fun H locs hP hS => ?_)
    rw [← eσ6] at hP
    refine lv_aload_n hx hb dX11_let_127 rfl (lv_at hl 0 rfl) ?_
    refine r_get (k := 41) (v := .ref (ea E 24)) C hP oM_0 rfl iX11 (by decide) wm_t1058 rfl rfl dX11_let_128 ?_
    refine lv_iconst (v := 5) hx hb dX11_let_131 (by decide) ?_
    refine lv_iload hx hb dX11_let_132 (lv_at hl 6 rfl) ?_
    refine lv_bipush (v := 10) hx hb dX11_let_134 (by decide) ?_
    refine lv_irem hx hb dX11_let_136 (by decide) ?_
    obtain ⟨h9, σ8, eσ8, hf⟩ := wrK_e hf
    refine r_ast C hP hS aM_24 h9 dX11_let_137 (fun H locs hP hS => ?_)
    rw [← eσ8] at hP
    refine lv_aload_n hx hb dX11_let_138 rfl (lv_at hl 0 rfl) ?_
    refine lv_iconst (v := 4) hx hb dX11_let_139 (by decide) ?_
    refine lv_iconst (v := (-1)) hx hb dX11_let_140 (by decide) ?_
    obtain ⟨r10, σ12, hc11, hf⟩ := cb_e hf
    refine r_cVi (n := 2) (As := [.int 4, .int (-1)]) (rest := []) C (c_fX11_isSo hj σ8 H.size 4 (-1) hc11) oM_0 rfl gv_RX11_388 (by decide +kernel) (rmD_le (by decide) (by decide)) rfl rfl (Nat.le_of_ble_eq_true rfl) dX11_let_141 hP hS hl.1 (fun H locs hP hS => ?_)
    refine lv_if_eq (tgt := 203) hx hb dX11_let_144 (by decide) (fun c13 => ?_) (fun c13 => ?_)
    · replace hf := it_t c13 hf
      refine lv_iinc (v := (x6 + 1)) (lv' := [(6, .int (x6 + 1)), (0, .ref (ea E 0)), (1, .int x1), (2, .int x2), (3, .int x3), (4, .int x4), (5, .int x5)]) hx hb dX11_let_203 hl (k := 6) rfl rfl (by decide) rfl (fun ls hl => ?_)
      refine lv_goto (tgt := 83) hx hb dX11_let_206 (by decide) ?_
      exact hr83 σ12 x1 x2 x3 x4 x5 (x6 + 1) hf H locs ls hP hS (lv_sub hl [1, 2, 3, 4, 5, 6, 0] rfl)
    · replace hf := it_f c13 hf
      refine lv_aload_n hx hb dX11_let_147 rfl (lv_at hl 0 rfl) ?_
      refine lv_iconst (v := 5) hx hb dX11_let_148 (by decide) ?_
      refine lv_iconst (v := (-1)) hx hb dX11_let_149 (by decide) ?_
      obtain ⟨r14, σ16, hc15, hf⟩ := cb_e hf
      refine r_cVi (n := 2) (As := [.int 5, .int (-1)]) (rest := []) C (c_fX11_isSo hj σ12 H.size 5 (-1) hc15) oM_0 rfl gv_RX11_388 (by decide +kernel) (rmD_le (by decide) (by decide)) rfl rfl (Nat.le_of_ble_eq_true rfl) dX11_let_150 hP hS hl.1 (fun H locs hP hS => ?_)
      refine lv_if_eq (tgt := 159) hx hb dX11_let_153 (by decide) (fun c17 => ?_) (fun c17 => ?_)
      · replace hf := it_t c17 hf
        refine lv_iload_n hx hb dX11_let_159 rfl (lv_at hl 3 rfl) ?_
        refine lv_if_ne (tgt := 199) hx hb dX11_let_160 (by decide) (fun c18 => ?_) (fun c18 => ?_)
        · replace hf := it_f c18 hf
          refine lv_iload_n hx hb dX11_let_199 rfl (lv_at hl 3 rfl) ?_
          refine lv_iconst (v := 1) hx hb dX11_let_200 (by decide) ?_
          refine lv_iadd hx hb dX11_let_201 ?_
          refine lv_istore_n (lv' := [(3, .int (x3 + 1)), (0, .ref (ea E 0)), (1, .int x1), (2, .int x2), (4, .int x4), (5, .int x5), (6, .int x6)]) hx hb dX11_let_202 rfl hl (by decide) rfl (fun ls hl => ?_)
          refine lv_iinc (v := (x6 + 1)) (lv' := [(6, .int (x6 + 1)), (3, .int (x3 + 1)), (0, .ref (ea E 0)), (1, .int x1), (2, .int x2), (4, .int x4), (5, .int x5)]) hx hb dX11_let_203 hl (k := 6) rfl rfl (by decide) rfl (fun ls hl => ?_)
          refine lv_goto (tgt := 83) hx hb dX11_let_206 (by decide) ?_
          exact hr83 σ16 x1 x2 (x3 + 1) x4 x5 (x6 + 1) hf H locs ls hP hS (lv_sub hl [2, 3, 4, 1, 5, 6, 0] rfl)
        · replace hf := it_t c18 hf
          refine lv_ldcw (v := 1000000) hx hb hown (hts _ wm_t1551) dX11_let_163 ?_
          refine lv_iload hx hb dX11_let_166 (lv_at hl 5 rfl) ?_
          refine lv_imul hx hb dX11_let_168 ?_
          refine lv_sipush (v := 10000) hx hb dX11_let_169 (by decide) ?_
          refine lv_iload hx hb dX11_let_172 (lv_at hl 6 rfl) ?_
          refine lv_bipush (v := 100) hx hb dX11_let_174 (by decide) ?_
          refine lv_idiv hx hb dX11_let_176 (by decide) ?_
          refine lv_imul hx hb dX11_let_177 ?_
          refine lv_iadd hx hb dX11_let_178 ?_
          refine lv_bipush (v := 100) hx hb dX11_let_179 (by decide) ?_
          refine lv_iload hx hb dX11_let_181 (lv_at hl 6 rfl) ?_
          refine lv_bipush (v := 10) hx hb dX11_let_183 (by decide) ?_
          refine lv_idiv hx hb dX11_let_185 (by decide) ?_
          refine lv_bipush (v := 10) hx hb dX11_let_186 (by decide) ?_
          refine lv_irem hx hb dX11_let_188 (by decide) ?_
          refine lv_imul hx hb dX11_let_189 ?_
          refine lv_iadd hx hb dX11_let_190 ?_
          refine lv_iload hx hb dX11_let_191 (lv_at hl 6 rfl) ?_
          refine lv_bipush (v := 10) hx hb dX11_let_193 (by decide) ?_
          refine lv_irem hx hb dX11_let_195 (by decide) ?_
          refine lv_iadd hx hb dX11_let_196 ?_
          refine lv_topi (fun v19 ev19 => ?_)
          replace hf := nm_i ev19 hf
          refine lv_istore (lv' := [(4, .int v19), (0, .ref (ea E 0)), (1, .int x1), (2, .int x2), (3, .int x3), (5, .int x5), (6, .int x6)]) hx hb dX11_let_197 hl (by decide) rfl (fun ls hl => ?_)
          refine lv_iload_n hx hb dX11_let_199 rfl (lv_at hl 4 rfl) ?_
          refine lv_iconst (v := 1) hx hb dX11_let_200 (by decide) ?_
          refine lv_iadd hx hb dX11_let_201 ?_
          refine lv_istore_n (lv' := [(3, .int (x3 + 1)), (4, .int v19), (0, .ref (ea E 0)), (1, .int x1), (2, .int x2), (5, .int x5), (6, .int x6)]) hx hb dX11_let_202 rfl hl (by decide) rfl (fun ls hl => ?_)
          refine lv_iinc (v := (x6 + 1)) (lv' := [(6, .int (x6 + 1)), (3, .int (x3 + 1)), (4, .int v19), (0, .ref (ea E 0)), (1, .int x1), (2, .int x2), (5, .int x5)]) hx hb dX11_let_203 hl (k := 6) rfl rfl (by decide) rfl (fun ls hl => ?_)
          refine lv_goto (tgt := 83) hx hb dX11_let_206 (by decide) ?_
          exact hr83 σ16 x1 x2 (x3 + 1) v19 x5 (x6 + 1) hf H locs ls hP hS (lv_sub hl [3, 4, 5, 1, 2, 6, 0] rfl)
      · replace hf := it_f c17 hf
        refine lv_goto (tgt := 203) hx hb dX11_let_156 (by decide) ?_
        refine lv_iinc (v := (x6 + 1)) (lv' := [(6, .int (x6 + 1)), (0, .ref (ea E 0)), (1, .int x1), (2, .int x2), (3, .int x3), (4, .int x4), (5, .int x5)]) hx hb dX11_let_203 hl (k := 6) rfl rfl (by decide) rfl (fun ls hl => ?_)
        refine lv_goto (tgt := 83) hx hb dX11_let_206 (by decide) ?_
        exact hr83 σ16 x1 x2 x3 x4 x5 (x6 + 1) hf H locs ls hP hS (lv_sub hl [1, 2, 3, 4, 5, 6, 0] rfl)
def fX11_let_83 (rec68 : St → Int32 → Int32 → Int32 → Int32 → Int32 → Option (Int32 × St)) : Nat → St → Int32 → Int32 → Int32 → Int32 → Int32 → Int32 → Option (Int32 × St)
  | 0 => fun _ _ _ _ _ _ _ => none
  | n + 1 => fun σ x1 x2 x3 x4 x5 x6 => fX11_let_83B rec68 (fX11_let_83 rec68 n) σ x1 x2 x3 x4 x5 x6
theorem b_fX11_let_83 {E : Ev} {l : Launch} {p : Program} {e : Env} {s : State} {m : MethodId} {args : Array Value} {below : List Frame} {meth : Method} {c : Code} (C : CX false E RX11 cX11_let 7 (some .int) p s m args meth c) {rr : Int32} {sr : St} (rec68 : St → Int32 → Int32 → Int32 → Int32 → Int32 → Option (Int32 × St)) (hr68 : ∀ (σ : St) (x1 : Int32) (x2 : Int32) (x3 : Int32) (x4 : Int32) (x5 : Int32), rec68 σ x1 x2 x3 x4 x5 = some (rr, sr) → GW false l (rmD 4) E 7 p e s m args below meth c (MQ below (QI false E rr sr s.heap.size) args s 0 0 (aW false E s.heap.size)) σ 68 [(0, .ref (ea E 0)), (1, .int x1), (2, .int x2), (3, .int x3), (4, .int x4), (5, .int x5)] []) : ∀ (n : Nat) (σ : St) (x1 : Int32) (x2 : Int32) (x3 : Int32) (x4 : Int32) (x5 : Int32) (x6 : Int32), fX11_let_83 rec68 n σ x1 x2 x3 x4 x5 x6 = some (rr, sr) → GW false l (rmD 4) E 7 p e s m args below meth c (MQ below (QI false E rr sr s.heap.size) args s 0 0 (aW false E s.heap.size)) σ 83 [(0, .ref (ea E 0)), (1, .int x1), (2, .int x2), (3, .int x3), (4, .int x4), (5, .int x5), (6, .int x6)] [] := by
  intro n
  induction n with
  | zero => intro σ x1 x2 x3 x4 x5 x6 hf; have hf : (none : Option _) = some _ := hf; cases hf
  | succ n ih => intro σ x1 x2 x3 x4 x5 x6 hf; exact b_fX11_let_83B C rec68 hr68 (fX11_let_83 rec68 n) ih σ x1 x2 x3 x4 x5 x6 hf
def fX11_let_68B (rec68 : St → Int32 → Int32 → Int32 → Int32 → Int32 → Option (Int32 × St)) (σ : St) (x1 : Int32) (x2 : Int32) (x3 : Int32) (x4 : Int32) (x5 : Int32) : Option (Int32 × St) :=
(if 20 < x5 then
(if x2 = 0 then
some (x3, σ)
else
some (x4, σ))
else
fX11_let_83 rec68 FU σ x1 x2 x3 x4 x5 ((x1 + 1) * 100))
set_option maxHeartbeats 4000000 in
theorem b_fX11_let_68B {E : Ev} {l : Launch} {p : Program} {e : Env} {s : State} {m : MethodId} {args : Array Value} {below : List Frame} {meth : Method} {c : Code} (C : CX false E RX11 cX11_let 7 (some .int) p s m args meth c) {rr : Int32} {sr : St} (rec68 : St → Int32 → Int32 → Int32 → Int32 → Int32 → Option (Int32 × St)) (hr68 : ∀ (σ : St) (x1 : Int32) (x2 : Int32) (x3 : Int32) (x4 : Int32) (x5 : Int32), rec68 σ x1 x2 x3 x4 x5 = some (rr, sr) → GW false l (rmD 4) E 7 p e s m args below meth c (MQ below (QI false E rr sr s.heap.size) args s 0 0 (aW false E s.heap.size)) σ 68 [(0, .ref (ea E 0)), (1, .int x1), (2, .int x2), (3, .int x3), (4, .int x4), (5, .int x5)] []) : ∀ (σ : St) (x1 : Int32) (x2 : Int32) (x3 : Int32) (x4 : Int32) (x5 : Int32), fX11_let_68B rec68 σ x1 x2 x3 x4 x5 = some (rr, sr) → GW false l (rmD 4) E 7 p e s m args below meth c (MQ below (QI false E rr sr s.heap.size) args s 0 0 (aW false E s.heap.size)) σ 68 [(0, .ref (ea E 0)), (1, .int x1), (2, .int x2), (3, .int x3), (4, .int x4), (5, .int x5)] [] := by
  intro σ x1 x2 x3 x4 x5 hf H locs ls hP hS hl
  obtain ⟨hx, hb, hr, hml, hown, hts, hlocks, hK, hX, hj⟩ := id C
  unfold fX11_let_68B at hf
  refine lv_iload hx hb dX11_let_68 (lv_at hl 5 rfl) ?_
  refine lv_bipush (v := 20) hx hb dX11_let_70 (by decide) ?_
  refine lv_icmp_gt (tgt := 215) hx hb dX11_let_72 (by decide) (fun c1 => ?_) (fun c1 => ?_)
  · replace hf := it_t c1 hf
    refine lv_iload_n hx hb dX11_let_215 rfl (lv_at hl 2 rfl) ?_
    refine lv_if_ne (tgt := 223) hx hb dX11_let_216 (by decide) (fun c2 => ?_) (fun c2 => ?_)
    · replace hf := it_f c2 hf
      refine lv_iload hx hb dX11_let_223 (lv_at hl 4 rfl) ?_
      cases hf
      exact r_iret C hP hS dX11_let_225
    · replace hf := it_t c2 hf
      refine lv_iload_n hx hb dX11_let_219 rfl (lv_at hl 3 rfl) ?_
      refine lv_goto (tgt := 225) hx hb dX11_let_220 (by decide) ?_
      cases hf
      exact r_iret C hP hS dX11_let_225
  · replace hf := it_f c1 hf
    refine lv_iload_n hx hb dX11_let_75 rfl (lv_at hl 1 rfl) ?_
    refine lv_iconst (v := 1) hx hb dX11_let_76 (by decide) ?_
    refine lv_iadd hx hb dX11_let_77 ?_
    refine lv_bipush (v := 100) hx hb dX11_let_78 (by decide) ?_
    refine lv_imul hx hb dX11_let_80 ?_
    refine lv_istore (lv' := [(6, .int ((x1 + 1) * 100)), (0, .ref (ea E 0)), (1, .int x1), (2, .int x2), (3, .int x3), (4, .int x4), (5, .int x5)]) hx hb dX11_let_81 hl (by decide) rfl (fun ls hl => ?_)
    exact b_fX11_let_83 C rec68 hr68 FU σ x1 x2 x3 x4 x5 ((x1 + 1) * 100) hf H locs ls hP hS (lv_sub hl [1, 2, 3, 4, 5, 6, 0] rfl)
def fX11_let_68 : Nat → St → Int32 → Int32 → Int32 → Int32 → Int32 → Option (Int32 × St)
  | 0 => fun _ _ _ _ _ _ => none
  | n + 1 => fun σ x1 x2 x3 x4 x5 => fX11_let_68B (fX11_let_68 n) σ x1 x2 x3 x4 x5
theorem b_fX11_let_68 {E : Ev} {l : Launch} {p : Program} {e : Env} {s : State} {m : MethodId} {args : Array Value} {below : List Frame} {meth : Method} {c : Code} (C : CX false E RX11 cX11_let 7 (some .int) p s m args meth c) {rr : Int32} {sr : St} : ∀ (n : Nat) (σ : St) (x1 : Int32) (x2 : Int32) (x3 : Int32) (x4 : Int32) (x5 : Int32), fX11_let_68 n σ x1 x2 x3 x4 x5 = some (rr, sr) → GW false l (rmD 4) E 7 p e s m args below meth c (MQ below (QI false E rr sr s.heap.size) args s 0 0 (aW false E s.heap.size)) σ 68 [(0, .ref (ea E 0)), (1, .int x1), (2, .int x2), (3, .int x3), (4, .int x4), (5, .int x5)] [] := by
  intro n
  induction n with
  | zero => intro σ x1 x2 x3 x4 x5 hf; have hf : (none : Option _) = some _ := hf; cases hf
  | succ n ih => intro σ x1 x2 x3 x4 x5 hf; exact b_fX11_let_68B C (fX11_let_68 n) ih σ x1 x2 x3 x4 x5 hf
def fX11_let (σ : St) (a0 : Int32) (a1 : Int32) : Option (Int32 × St) :=
(nmS (st_put σ 0 0 0) fun σ1 =>
(if (fX11_isIn a0 0 20) = 0 then
some ((-1), σ1)
else
(if (fX11_isIn a1 0 1) = 0 then
some ((-1), σ1)
else
(wrK 16 σ1 24 12 0 fun σ4 =>
(wrK 16 σ4 24 13 0 fun σ6 =>
(wrK 16 σ6 24 14 0 fun σ8 =>
(wrK 16 σ8 24 15 1 fun σ10 =>
fX11_let_68 FU σ10 a0 a1 0 (-1) 0)))))))
set_option maxHeartbeats 4000000 in
theorem c_fX11_let {E : Ev} {l : Launch} (hj : jW false E) (σ : St) (sz : Nat) (a0 : Int32) (a1 : Int32) {rr : Int32} {sr : St} (hf : fX11_let σ a0 a1 = some (rr, sr)) : Met l yX11_let (Cond.code yX11_let cX11_let 7 (some .int) :: gT) (rmD 4) (va_Pc [.ref (ea E 0), .int a0, .int a1] (preW false E σ sz)) (QI false E rr sr sz) 0 0 (aW false E sz) := by
  refine r_entry (QI false E rr sr) hj (by decide) [.ref (ea E 0), .int a0, .int a1] (Nat.le_of_ble_eq_true rfl) (fun p e s m args below meth c C => ?_)
  intro H locs ls hP hS hl
  have hl : lv_has ls 7 [(0, .ref (ea E 0)), (1, .int a0), (2, .int a1)] := hl
  obtain ⟨hx, hb, hr, hml, hown, hts, hlocks, hK, hX, hj⟩ := id C
  unfold fX11_let at hf
  refine lv_aload_n hx hb dX11_let_0 rfl (lv_at hl 0 rfl) ?_
  refine lv_iconst (v := 0) hx hb dX11_let_1 (by decide) ?_
  refine r_put (k := 0) (x := 0) C hP hS tyX11 tyX11_ok nmX11 oM_0 rfl iX11 (by decide) wm_t1017 rfl rfl sM_0_0 rfl rfl (Nat.le_of_ble_eq_true rfl) dX11_let_2 (fun H locs hP hS => ?_)
  obtain ⟨σ1, eσ1, hf⟩ := nmS_e hf
  rw [← eσ1] at hP
  refine lv_aload_n hx hb dX11_let_5 rfl (lv_at hl 0 rfl) ?_
  refine lv_iload_n hx hb dX11_let_6 rfl (lv_at hl 1 rfl) ?_
  refine lv_iconst (v := 0) hx hb dX11_let_7 (by decide) ?_
  refine lv_bipush (v := 20) hx hb dX11_let_8 (by decide) ?_
  refine r_cVi (n := 3) (As := [.int a0, .int 0, .int 20]) (rest := []) C (c_fX11_isIn hj σ1 H.size a0 0 20) oM_0 rfl gv_RX11_144 (by decide +kernel) (rmD_le (by decide) (by decide)) rfl rfl (Nat.le_of_ble_eq_true rfl) dX11_let_10 hP hS hl.1 (fun H locs hP hS => ?_)
  refine lv_if_eq (tgt := 26) hx hb dX11_let_13 (by decide) (fun c2 => ?_) (fun c2 => ?_)
  · replace hf := it_t c2 hf
    refine lv_iconst (v := (-1)) hx hb dX11_let_26 (by decide) ?_
    cases hf
    exact r_iret C hP hS dX11_let_27
  · replace hf := it_f c2 hf
    refine lv_aload_n hx hb dX11_let_16 rfl (lv_at hl 0 rfl) ?_
    refine lv_iload_n hx hb dX11_let_17 rfl (lv_at hl 2 rfl) ?_
    refine lv_iconst (v := 0) hx hb dX11_let_18 (by decide) ?_
    refine lv_iconst (v := 1) hx hb dX11_let_19 (by decide) ?_
    refine r_cVi (n := 3) (As := [.int a1, .int 0, .int 1]) (rest := []) C (c_fX11_isIn hj σ1 H.size a1 0 1) oM_0 rfl gv_RX11_144 (by decide +kernel) (rmD_le (by decide) (by decide)) rfl rfl (Nat.le_of_ble_eq_true rfl) dX11_let_20 hP hS hl.1 (fun H locs hP hS => ?_)
    refine lv_if_ne (tgt := 28) hx hb dX11_let_23 (by decide) (fun c3 => ?_) (fun c3 => ?_)
    · replace hf := it_f c3 hf
      refine lv_iconst (v := 0) hx hb dX11_let_28 (by decide) ?_
      refine lv_istore_n (lv' := [(3, .int 0), (0, .ref (ea E 0)), (1, .int a0), (2, .int a1)]) hx hb dX11_let_29 rfl hl (by decide) rfl (fun ls hl => ?_)
      refine lv_iconst (v := (-1)) hx hb dX11_let_30 (by decide) ?_
      refine lv_istore (lv' := [(4, .int (-1)), (3, .int 0), (0, .ref (ea E 0)), (1, .int a0), (2, .int a1)]) hx hb dX11_let_31 hl (by decide) rfl (fun ls hl => ?_)
      refine lv_aload_n hx hb dX11_let_33 rfl (lv_at hl 2 rfl) ?_
      refine r_get (k := 41) (v := .ref (ea E 24)) C hP oM_0 rfl iX11 (by decide) wm_t1058 rfl rfl dX11_let_34 ?_
      refine lv_bipush (v := 12) hx hb dX11_let_37 (by decide) ?_
      refine lv_iconst (v := 0) hx hb dX11_let_39 (by decide) ?_
      obtain ⟨h5, σ4, eσ4, hf⟩ := wrK_e hf
      refine r_ast C hP hS aM_24 h5 dX11_let_40 (fun H locs hP hS => ?_)
      rw [← eσ4] at hP
      refine lv_aload_n hx hb dX11_let_41 rfl (lv_at hl 2 rfl) ?_
      refine r_get (k := 41) (v := .ref (ea E 24)) C hP oM_0 rfl iX11 (by decide) wm_t1058 rfl rfl dX11_let_42 ?_
      refine lv_bipush (v := 13) hx hb dX11_let_45 (by decide) ?_
      refine lv_iconst (v := 0) hx hb dX11_let_47 (by decide) ?_
      obtain ⟨h7, σ6, eσ6, hf⟩ := wrK_e hf
      refine r_ast C hP hS aM_24 h7 dX11_let_48 (fun H locs hP hS => ?_)
      rw [← eσ6] at hP
      refine lv_aload_n hx hb dX11_let_49 rfl (lv_at hl 2 rfl) ?_
      refine r_get (k := 41) (v := .ref (ea E 24)) C hP oM_0 rfl iX11 (by decide) wm_t1058 rfl rfl dX11_let_50 ?_
      refine lv_bipush (v := 14) hx hb dX11_let_53 (by decide) ?_
      refine lv_iconst (v := 0) hx hb dX11_let_55 (by decide) ?_
      obtain ⟨h9, σ8, eσ8, hf⟩ := wrK_e hf
      refine r_ast C hP hS aM_24 h9 dX11_let_56 (fun H locs hP hS => ?_)
      rw [← eσ8] at hP
      refine lv_aload_n hx hb dX11_let_57 rfl (lv_at hl 2 rfl) ?_
      refine r_get (k := 41) (v := .ref (ea E 24)) C hP oM_0 rfl iX11 (by decide) wm_t1058 rfl rfl dX11_let_58 ?_
      refine lv_bipush (v := 15) hx hb dX11_let_61 (by decide) ?_
      refine lv_iconst (v := 1) hx hb dX11_let_63 (by decide) ?_
      obtain ⟨h11, σ10, eσ10, hf⟩ := wrK_e hf
      refine r_ast C hP hS aM_24 h11 dX11_let_64 (fun H locs hP hS => ?_)
      rw [← eσ10] at hP
      refine lv_iconst (v := 0) hx hb dX11_let_65 (by decide) ?_
      refine lv_istore (lv' := [(5, .int 0), (4, .int (-1)), (3, .int 0), (0, .ref (ea E 0)), (1, .int a0), (2, .int a1)]) hx hb dX11_let_66 hl (by decide) rfl (fun ls hl => ?_)
      exact b_fX11_let_68 C FU σ10 a0 a1 0 (-1) 0 hf H locs ls hP hS (lv_sub hl [3, 4, 5, 2, 1, 0] rfl)
    · replace hf := it_t c3 hf
      refine lv_iconst (v := (-1)) hx hb dX11_let_26 (by decide) ?_
      cases hf
      exact r_iret C hP hS dX11_let_27
def fX11_port (σ : St) (a0 : Int32) : Option (Int32 × St) :=
(nmS (st_put σ 0 0 0) fun σ1 =>
(if (fX11_isIn a0 1 400) = 0 then
some ((-1), σ1)
else
(if (σ1 0 56) = 6 then
some ((-1), σ1)
else
(wrK 6 σ1 35 (σ1 0 56) a0 fun σ4 =>
(nmS (st_put σ4 0 56 ((σ4 0 56) + 1)) fun σ6 =>
some (((σ6 0 56) - 1), σ6))))))
set_option maxHeartbeats 4000000 in
theorem c_fX11_port {E : Ev} {l : Launch} (hj : jW false E) (σ : St) (sz : Nat) (a0 : Int32) {rr : Int32} {sr : St} (hf : fX11_port σ a0 = some (rr, sr)) : Met l yX11_port (Cond.code yX11_port cX11_port 2 (some .int) :: gT) (rmD 2) (va_Pc [.ref (ea E 0), .int a0] (preW false E σ sz)) (QI false E rr sr sz) 0 0 (aW false E sz) := by
  refine r_entry (QI false E rr sr) hj (by decide) [.ref (ea E 0), .int a0] (Nat.le_of_ble_eq_true rfl) (fun p e s m args below meth c C => ?_)
  intro H locs ls hP hS hl
  have hl : lv_has ls 2 [(0, .ref (ea E 0)), (1, .int a0)] := hl
  obtain ⟨hx, hb, hr, hml, hown, hts, hlocks, hK, hX, hj⟩ := id C
  unfold fX11_port at hf
  refine lv_aload_n hx hb dX11_port_0 rfl (lv_at hl 0 rfl) ?_
  refine lv_iconst (v := 0) hx hb dX11_port_1 (by decide) ?_
  refine r_put (k := 0) (x := 0) C hP hS tyX11 tyX11_ok nmX11 oM_0 rfl iX11 (by decide) wm_t1017 rfl rfl sM_0_0 rfl rfl (Nat.le_of_ble_eq_true rfl) dX11_port_2 (fun H locs hP hS => ?_)
  obtain ⟨σ1, eσ1, hf⟩ := nmS_e hf
  rw [← eσ1] at hP
  refine lv_aload_n hx hb dX11_port_5 rfl (lv_at hl 0 rfl) ?_
  refine lv_iload_n hx hb dX11_port_6 rfl (lv_at hl 1 rfl) ?_
  refine lv_iconst (v := 1) hx hb dX11_port_7 (by decide) ?_
  refine lv_sipush (v := 400) hx hb dX11_port_8 (by decide) ?_
  refine r_cVi (n := 3) (As := [.int a0, .int 1, .int 400]) (rest := []) C (c_fX11_isIn hj σ1 H.size a0 1 400) oM_0 rfl gv_RX11_144 (by decide +kernel) (rmD_le (by decide) (by decide)) rfl rfl (Nat.le_of_ble_eq_true rfl) dX11_port_11 hP hS hl.1 (fun H locs hP hS => ?_)
  refine lv_if_eq (tgt := 26) hx hb dX11_port_14 (by decide) (fun c2 => ?_) (fun c2 => ?_)
  · replace hf := it_t c2 hf
    refine lv_iconst (v := (-1)) hx hb dX11_port_26 (by decide) ?_
    cases hf
    exact r_iret C hP hS dX11_port_27
  · replace hf := it_f c2 hf
    refine lv_aload_n hx hb dX11_port_17 rfl (lv_at hl 0 rfl) ?_
    refine r_get (k := 56) (v := .int (σ1 0 56)) C hP oM_0 rfl iX11 (by decide) wm_t1073 rfl rfl dX11_port_18 ?_
    refine lv_bipush (v := 6) hx hb dX11_port_21 (by decide) ?_
    refine lv_icmp_ne (tgt := 28) hx hb dX11_port_23 (by decide) (fun c3 => ?_) (fun c3 => ?_)
    · replace hf := it_f c3 hf
      refine lv_aload_n hx hb dX11_port_28 rfl (lv_at hl 0 rfl) ?_
      refine r_get (k := 57) (v := .ref (ea E 35)) C hP oM_0 rfl iX11 (by decide) wm_t1074 rfl rfl dX11_port_29 ?_
      refine lv_aload_n hx hb dX11_port_32 rfl (lv_at hl 0 rfl) ?_
      refine r_get (k := 56) (v := .int (σ1 0 56)) C hP oM_0 rfl iX11 (by decide) wm_t1073 rfl rfl dX11_port_33 ?_
      refine lv_iload_n hx hb dX11_port_36 rfl (lv_at hl 1 rfl) ?_
      obtain ⟨h5, σ4, eσ4, hf⟩ := wrK_e hf
      refine r_ast C hP hS aM_35 h5 dX11_port_37 (fun H locs hP hS => ?_)
      rw [← eσ4] at hP
      refine lv_aload_n hx hb dX11_port_38 rfl (lv_at hl 0 rfl) ?_
      refine lv_aload_n hx hb dX11_port_39 rfl (lv_at hl 0 rfl) ?_
      refine r_get (k := 56) (v := .int (σ4 0 56)) C hP oM_0 rfl iX11 (by decide) wm_t1073 rfl rfl dX11_port_40 ?_
      refine lv_iconst (v := 1) hx hb dX11_port_43 (by decide) ?_
      refine lv_iadd hx hb dX11_port_44 ?_
      refine r_put (k := 56) (x := ((σ4 0 56) + 1)) C hP hS tyX11 tyX11_ok nmX11 oM_0 rfl iX11 (by decide) wm_t1073 rfl rfl sM_0_56 rfl rfl (Nat.le_of_ble_eq_true rfl) dX11_port_45 (fun H locs hP hS => ?_)
      obtain ⟨σ6, eσ6, hf⟩ := nmS_e hf
      rw [← eσ6] at hP
      refine lv_aload_n hx hb dX11_port_48 rfl (lv_at hl 0 rfl) ?_
      refine r_get (k := 56) (v := .int (σ6 0 56)) C hP oM_0 rfl iX11 (by decide) wm_t1073 rfl rfl dX11_port_49 ?_
      refine lv_iconst (v := 1) hx hb dX11_port_52 (by decide) ?_
      refine lv_isub hx hb dX11_port_53 ?_
      cases hf
      exact r_iret C hP hS dX11_port_54
    · replace hf := it_t c3 hf
      refine lv_iconst (v := (-1)) hx hb dX11_port_26 (by decide) ?_
      cases hf
      exact r_iret C hP hS dX11_port_27
def fX11_lasts_161 (σ : St) : Option (Int32 × St) :=
(rdK 2 (σ 12) 1 fun v1 =>
(if v1 = (-1) then
some (1, σ)
else
some (0, σ)))
set_option maxHeartbeats 4000000 in
theorem b_fX11_lasts_161 {E : Ev} {l : Launch} {p : Program} {e : Env} {s : State} {m : MethodId} {args : Array Value} {below : List Frame} {meth : Method} {c : Code} (C : CX false E RX11 cX11_lasts 3 (some .boolean) p s m args meth c) {rr : Int32} {sr : St} : ∀ (σ : St), fX11_lasts_161 σ = some (rr, sr) → GW false l (rmD 6) E 3 p e s m args below meth c (MQ below (QI false E rr sr s.heap.size) args s 0 0 (aW false E s.heap.size)) σ 161 [(0, .ref (ea E 0))] [] := by
  intro σ hf H locs ls hP hS hl
  obtain ⟨hx, hb, hr, hml, hown, hts, hlocks, hK, hX, hj⟩ := id C
  unfold fX11_lasts_161 at hf
  refine lv_aload_n hx hb dX11_lasts_161 rfl (lv_at hl 0 rfl) ?_
  refine r_get (k := 16) (v := .ref (ea E 12)) C hP oM_0 rfl iX11 (by decide) wm_t1033 rfl rfl dX11_lasts_162 ?_
  refine lv_iconst (v := 1) hx hb dX11_lasts_165 (by decide) ?_
  have h2 := (rdK_e hf).1
  refine r_ald C hP aM_12 h2 dX11_lasts_166 ?_
  refine lv_topi (fun v1 ev1 => ?_)
  replace hf := rdK_n ev1 hf
  refine lv_iconst (v := (-1)) hx hb dX11_lasts_167 (by decide) ?_
  refine lv_icmp_ne (tgt := 175) hx hb dX11_lasts_168 (by decide) (fun c3 => ?_) (fun c3 => ?_)
  · replace hf := it_f c3 hf
    refine lv_iconst (v := 0) hx hb dX11_lasts_175 (by decide) ?_
    cases hf
    exact r_zret C rfl hP hS dX11_lasts_176
  · replace hf := it_t c3 hf
    refine lv_iconst (v := 1) hx hb dX11_lasts_171 (by decide) ?_
    refine lv_goto (tgt := 176) hx hb dX11_lasts_172 (by decide) ?_
    cases hf
    exact r_zret C rfl hP hS dX11_lasts_176
def fX11_lasts_129B (rec129 : St → Int32 → Int32 → Option (Int32 × St)) (σ : St) (x1 : Int32) (x2 : Int32) : Option (Int32 × St) :=
(if x1 ≤ x2 then
fX11_lasts_161 σ
else
(rdK 2 (σ 12) 1 fun v2 =>
(if v2 = (-1) then
(cv (fX11_shipHour σ 1 ((σ 0 1) + x2)) fun σ6 =>
rec129 σ6 x1 (x2 + 1))
else
fX11_lasts_161 σ)))
set_option maxHeartbeats 4000000 in
theorem b_fX11_lasts_129B {E : Ev} {l : Launch} {p : Program} {e : Env} {s : State} {m : MethodId} {args : Array Value} {below : List Frame} {meth : Method} {c : Code} (C : CX false E RX11 cX11_lasts 3 (some .boolean) p s m args meth c) {rr : Int32} {sr : St} (rec129 : St → Int32 → Int32 → Option (Int32 × St)) (hr129 : ∀ (σ : St) (x1 : Int32) (x2 : Int32), rec129 σ x1 x2 = some (rr, sr) → GW false l (rmD 6) E 3 p e s m args below meth c (MQ below (QI false E rr sr s.heap.size) args s 0 0 (aW false E s.heap.size)) σ 129 [(0, .ref (ea E 0)), (1, .int x1), (2, .int x2)] []) : ∀ (σ : St) (x1 : Int32) (x2 : Int32), fX11_lasts_129B rec129 σ x1 x2 = some (rr, sr) → GW false l (rmD 6) E 3 p e s m args below meth c (MQ below (QI false E rr sr s.heap.size) args s 0 0 (aW false E s.heap.size)) σ 129 [(0, .ref (ea E 0)), (1, .int x1), (2, .int x2)] [] := by
  intro σ x1 x2 hf H locs ls hP hS hl
  obtain ⟨hx, hb, hr, hml, hown, hts, hlocks, hK, hX, hj⟩ := id C
  unfold fX11_lasts_129B at hf
  refine lv_iload_n hx hb dX11_lasts_129 rfl (lv_at hl 2 rfl) ?_
  refine lv_iload_n hx hb dX11_lasts_130 rfl (lv_at hl 1 rfl) ?_
  refine lv_icmp_ge (tgt := 161) hx hb dX11_lasts_131 (by decide) (fun c1 => ?_) (fun c1 => ?_)
  · replace hf := it_t c1 hf
    exact b_fX11_lasts_161 C σ hf H locs ls hP hS (lv_sub hl [0] rfl)
  · replace hf := it_f c1 hf
    refine lv_aload_n hx hb dX11_lasts_134 rfl (lv_at hl 0 rfl) ?_
    refine r_get (k := 16) (v := .ref (ea E 12)) C hP oM_0 rfl iX11 (by decide) wm_t1033 rfl rfl dX11_lasts_135 ?_
    refine lv_iconst (v := 1) hx hb dX11_lasts_138 (by decide) ?_
    have h3 := (rdK_e hf).1
    refine r_ald C hP aM_12 h3 dX11_lasts_139 ?_
    refine lv_topi (fun v2 ev2 => ?_)
    replace hf := rdK_n ev2 hf
    refine lv_iconst (v := (-1)) hx hb dX11_lasts_140 (by decide) ?_
    refine lv_icmp_ne (tgt := 161) hx hb dX11_lasts_141 (by decide) (fun c4 => ?_) (fun c4 => ?_)
    · replace hf := it_f c4 hf
      exact b_fX11_lasts_161 C σ hf H locs ls hP hS (lv_sub hl [0] rfl)
    · replace hf := it_t c4 hf
      refine lv_aload_n hx hb dX11_lasts_144 rfl (lv_at hl 0 rfl) ?_
      refine lv_iconst (v := 1) hx hb dX11_lasts_145 (by decide) ?_
      refine lv_aload_n hx hb dX11_lasts_146 rfl (lv_at hl 0 rfl) ?_
      refine r_get (k := 1) (v := .int (σ 0 1)) C hP oM_0 rfl iX11 (by decide) wm_t1018 rfl rfl dX11_lasts_147 ?_
      refine lv_iload_n hx hb dX11_lasts_150 rfl (lv_at hl 2 rfl) ?_
      refine lv_iadd hx hb dX11_lasts_151 ?_
      obtain ⟨σ6, hc5, hf⟩ := cv_e hf
      refine r_cVv (n := 2) (As := [.int 1, .int ((σ 0 1) + x2)]) (rest := []) C (c_fX11_shipHour hj σ H.size 1 ((σ 0 1) + x2) hc5) oM_0 rfl gv_RX11_350 (by decide +kernel) (rmD_le (by decide) (by decide)) rfl rfl (Nat.le_of_ble_eq_true rfl) dX11_lasts_152 hP hS hl.1 (fun H locs hP hS => ?_)
      refine lv_iinc (v := (x2 + 1)) (lv' := [(2, .int (x2 + 1)), (0, .ref (ea E 0)), (1, .int x1)]) hx hb dX11_lasts_155 hl (k := 2) rfl rfl (by decide) rfl (fun ls hl => ?_)
      refine lv_goto (tgt := 129) hx hb dX11_lasts_158 (by decide) ?_
      exact hr129 σ6 x1 (x2 + 1) hf H locs ls hP hS (lv_sub hl [1, 2, 0] rfl)
def fX11_lasts_129 : Nat → St → Int32 → Int32 → Option (Int32 × St)
  | 0 => fun _ _ _ => none
  | n + 1 => fun σ x1 x2 => fX11_lasts_129B (fX11_lasts_129 n) σ x1 x2
theorem b_fX11_lasts_129 {E : Ev} {l : Launch} {p : Program} {e : Env} {s : State} {m : MethodId} {args : Array Value} {below : List Frame} {meth : Method} {c : Code} (C : CX false E RX11 cX11_lasts 3 (some .boolean) p s m args meth c) {rr : Int32} {sr : St} : ∀ (n : Nat) (σ : St) (x1 : Int32) (x2 : Int32), fX11_lasts_129 n σ x1 x2 = some (rr, sr) → GW false l (rmD 6) E 3 p e s m args below meth c (MQ below (QI false E rr sr s.heap.size) args s 0 0 (aW false E s.heap.size)) σ 129 [(0, .ref (ea E 0)), (1, .int x1), (2, .int x2)] [] := by
  intro n
  induction n with
  | zero => intro σ x1 x2 hf; have hf : (none : Option _) = some _ := hf; cases hf
  | succ n ih => intro σ x1 x2 hf; exact b_fX11_lasts_129B C (fX11_lasts_129 n) ih σ x1 x2 hf
def fX11_lasts_2B (rec2 : St → Int32 → Int32 → Option (Int32 × St)) (σ : St) (x1 : Int32) (x2 : Int32) : Option (Int32 × St) :=
(if 144 ≤ x2 then
(rdK 2 (σ 9) 0 fun v2 =>
(wrK 2 σ 9 1 v2 fun σ4 =>
(rdK 2 (σ4 10) 0 fun v6 =>
(wrK 2 σ4 10 1 v6 fun σ8 =>
(rdK 2 (σ8 11) 0 fun v10 =>
(wrK 2 σ8 11 1 v10 fun σ12 =>
(rdK 2 (σ12 12) 0 fun v14 =>
(wrK 2 σ12 12 1 v14 fun σ16 =>
fX11_lasts_129 FU σ16 x1 0))))))))
else
(rdK 288 (σ 5) x2 fun v18 =>
(wrK 288 σ 5 (144 + x2) v18 fun σ20 =>
(rdK 288 (σ20 6) x2 fun v22 =>
(wrK 288 σ20 6 (144 + x2) v22 fun σ24 =>
(rdK 288 (σ24 7) x2 fun v26 =>
(wrK 288 σ24 7 (144 + x2) v26 fun σ28 =>
(rdK 288 (σ28 8) x2 fun v30 =>
(wrK 288 σ28 8 (144 + x2) (vp_nar .boolean v30) fun σ32 =>
rec2 σ32 x1 (x2 + 1))))))))))
set_option maxHeartbeats 4000000 in
theorem b_fX11_lasts_2B {E : Ev} {l : Launch} {p : Program} {e : Env} {s : State} {m : MethodId} {args : Array Value} {below : List Frame} {meth : Method} {c : Code} (C : CX false E RX11 cX11_lasts 3 (some .boolean) p s m args meth c) {rr : Int32} {sr : St} (rec2 : St → Int32 → Int32 → Option (Int32 × St)) (hr2 : ∀ (σ : St) (x1 : Int32) (x2 : Int32), rec2 σ x1 x2 = some (rr, sr) → GW false l (rmD 6) E 3 p e s m args below meth c (MQ below (QI false E rr sr s.heap.size) args s 0 0 (aW false E s.heap.size)) σ 2 [(0, .ref (ea E 0)), (1, .int x1), (2, .int x2)] []) : ∀ (σ : St) (x1 : Int32) (x2 : Int32), fX11_lasts_2B rec2 σ x1 x2 = some (rr, sr) → GW false l (rmD 6) E 3 p e s m args below meth c (MQ below (QI false E rr sr s.heap.size) args s 0 0 (aW false E s.heap.size)) σ 2 [(0, .ref (ea E 0)), (1, .int x1), (2, .int x2)] [] := by
  intro σ x1 x2 hf H locs ls hP hS hl
  obtain ⟨hx, hb, hr, hml, hown, hts, hlocks, hK, hX, hj⟩ := id C
  unfold fX11_lasts_2B at hf
  refine lv_iload_n hx hb dX11_lasts_2 rfl (lv_at hl 2 rfl) ?_
  refine lv_sipush (v := 144) hx hb dX11_lasts_3 (by decide) ?_
  refine lv_icmp_ge (tgt := 79) hx hb dX11_lasts_6 (by decide) (fun c1 => ?_) (fun c1 => ?_)
  · replace hf := it_t c1 hf
    refine lv_aload_n hx hb dX11_lasts_79 rfl (lv_at hl 0 rfl) ?_
    refine r_get (k := 12) (v := .ref (ea E 9)) C hP oM_0 rfl iX11 (by decide) wm_t1029 rfl rfl dX11_lasts_80 ?_
    refine lv_iconst (v := 1) hx hb dX11_lasts_83 (by decide) ?_
    refine lv_aload_n hx hb dX11_lasts_84 rfl (lv_at hl 0 rfl) ?_
    refine r_get (k := 12) (v := .ref (ea E 9)) C hP oM_0 rfl iX11 (by decide) wm_t1029 rfl rfl dX11_lasts_85 ?_
    refine lv_iconst (v := 0) hx hb dX11_lasts_88 (by decide) ?_
    have h3 := (rdK_e hf).1
    refine r_ald C hP aM_9 h3 dX11_lasts_89 ?_
    refine lv_topi (fun v2 ev2 => ?_)
    replace hf := rdK_n ev2 hf
    obtain ⟨h5, σ4, eσ4, hf⟩ := wrK_e hf
    refine r_ast C hP hS aM_9 h5 dX11_lasts_90 (fun H locs hP hS => ?_)
    rw [← eσ4] at hP
    refine lv_aload_n hx hb dX11_lasts_91 rfl (lv_at hl 0 rfl) ?_
    refine r_get (k := 14) (v := .ref (ea E 10)) C hP oM_0 rfl iX11 (by decide) wm_t1031 rfl rfl dX11_lasts_92 ?_
    refine lv_iconst (v := 1) hx hb dX11_lasts_95 (by decide) ?_
    refine lv_aload_n hx hb dX11_lasts_96 rfl (lv_at hl 0 rfl) ?_
    refine r_get (k := 14) (v := .ref (ea E 10)) C hP oM_0 rfl iX11 (by decide) wm_t1031 rfl rfl dX11_lasts_97 ?_
    refine lv_iconst (v := 0) hx hb dX11_lasts_100 (by decide) ?_
    have h7 := (rdK_e hf).1
    refine r_ald C hP aM_10 h7 dX11_lasts_101 ?_
    refine lv_topi (fun v6 ev6 => ?_)
    replace hf := rdK_n ev6 hf
    obtain ⟨h9, σ8, eσ8, hf⟩ := wrK_e hf
    refine r_ast C hP hS aM_10 h9 dX11_lasts_102 (fun H locs hP hS => ?_)
    rw [← eσ8] at hP
    refine lv_aload_n hx hb dX11_lasts_103 rfl (lv_at hl 0 rfl) ?_
    refine r_get (k := 15) (v := .ref (ea E 11)) C hP oM_0 rfl iX11 (by decide) wm_t1032 rfl rfl dX11_lasts_104 ?_
    refine lv_iconst (v := 1) hx hb dX11_lasts_107 (by decide) ?_
    refine lv_aload_n hx hb dX11_lasts_108 rfl (lv_at hl 0 rfl) ?_
    refine r_get (k := 15) (v := .ref (ea E 11)) C hP oM_0 rfl iX11 (by decide) wm_t1032 rfl rfl dX11_lasts_109 ?_
    refine lv_iconst (v := 0) hx hb dX11_lasts_112 (by decide) ?_
    have h11 := (rdK_e hf).1
    refine r_ald C hP aM_11 h11 dX11_lasts_113 ?_
    refine lv_topi (fun v10 ev10 => ?_)
    replace hf := rdK_n ev10 hf
    obtain ⟨h13, σ12, eσ12, hf⟩ := wrK_e hf
    refine r_ast C hP hS aM_11 h13 dX11_lasts_114 (fun H locs hP hS => ?_)
    rw [← eσ12] at hP
    refine lv_aload_n hx hb dX11_lasts_115 rfl (lv_at hl 0 rfl) ?_
    refine r_get (k := 16) (v := .ref (ea E 12)) C hP oM_0 rfl iX11 (by decide) wm_t1033 rfl rfl dX11_lasts_116 ?_
    refine lv_iconst (v := 1) hx hb dX11_lasts_119 (by decide) ?_
    refine lv_aload_n hx hb dX11_lasts_120 rfl (lv_at hl 0 rfl) ?_
    refine r_get (k := 16) (v := .ref (ea E 12)) C hP oM_0 rfl iX11 (by decide) wm_t1033 rfl rfl dX11_lasts_121 ?_
    refine lv_iconst (v := 0) hx hb dX11_lasts_124 (by decide) ?_
    have h15 := (rdK_e hf).1
    refine r_ald C hP aM_12 h15 dX11_lasts_125 ?_
    refine lv_topi (fun v14 ev14 => ?_)
    replace hf := rdK_n ev14 hf
    obtain ⟨h17, σ16, eσ16, hf⟩ := wrK_e hf
    refine r_ast C hP hS aM_12 h17 dX11_lasts_126 (fun H locs hP hS => ?_)
    rw [← eσ16] at hP
    refine lv_iconst (v := 0) hx hb dX11_lasts_127 (by decide) ?_
    refine lv_istore_n (lv' := [(2, .int 0), (0, .ref (ea E 0)), (1, .int x1)]) hx hb dX11_lasts_128 rfl hl (by decide) rfl (fun ls hl => ?_)
    exact b_fX11_lasts_129 C FU σ16 x1 0 hf H locs ls hP hS (lv_sub hl [1, 2, 0] rfl)
  · replace hf := it_f c1 hf
    refine lv_aload_n hx hb dX11_lasts_9 rfl (lv_at hl 0 rfl) ?_
    refine r_get (k := 7) (v := .ref (ea E 5)) C hP oM_0 rfl iX11 (by decide) wm_t1024 rfl rfl dX11_lasts_10 ?_
    refine lv_sipush (v := 144) hx hb dX11_lasts_13 (by decide) ?_
    refine lv_iload_n hx hb dX11_lasts_16 rfl (lv_at hl 2 rfl) ?_
    refine lv_iadd hx hb dX11_lasts_17 ?_
    refine lv_aload_n hx hb dX11_lasts_18 rfl (lv_at hl 0 rfl) ?_
    refine r_get (k := 7) (v := .ref (ea E 5)) C hP oM_0 rfl iX11 (by decide) wm_t1024 rfl rfl dX11_lasts_19 ?_
    refine lv_iload_n hx hb dX11_lasts_22 rfl (lv_at hl 2 rfl) ?_
    have h19 := (rdK_e hf).1
    refine r_ald C hP aM_5 h19 dX11_lasts_23 ?_
    refine lv_topi (fun v18 ev18 => ?_)
    replace hf := rdK_n ev18 hf
    obtain ⟨h21, σ20, eσ20, hf⟩ := wrK_e hf
    refine r_ast C hP hS aM_5 h21 dX11_lasts_24 (fun H locs hP hS => ?_)
    rw [← eσ20] at hP
    refine lv_aload_n hx hb dX11_lasts_25 rfl (lv_at hl 0 rfl) ?_
    refine r_get (k := 8) (v := .ref (ea E 6)) C hP oM_0 rfl iX11 (by decide) wm_t1025 rfl rfl dX11_lasts_26 ?_
    refine lv_sipush (v := 144) hx hb dX11_lasts_29 (by decide) ?_
    refine lv_iload_n hx hb dX11_lasts_32 rfl (lv_at hl 2 rfl) ?_
    refine lv_iadd hx hb dX11_lasts_33 ?_
    refine lv_aload_n hx hb dX11_lasts_34 rfl (lv_at hl 0 rfl) ?_
    refine r_get (k := 8) (v := .ref (ea E 6)) C hP oM_0 rfl iX11 (by decide) wm_t1025 rfl rfl dX11_lasts_35 ?_
    refine lv_iload_n hx hb dX11_lasts_38 rfl (lv_at hl 2 rfl) ?_
    have h23 := (rdK_e hf).1
    refine r_ald C hP aM_6 h23 dX11_lasts_39 ?_
    refine lv_topi (fun v22 ev22 => ?_)
    replace hf := rdK_n ev22 hf
    obtain ⟨h25, σ24, eσ24, hf⟩ := wrK_e hf
    refine r_ast C hP hS aM_6 h25 dX11_lasts_40 (fun H locs hP hS => ?_)
    rw [← eσ24] at hP
    refine lv_aload_n hx hb dX11_lasts_41 rfl (lv_at hl 0 rfl) ?_
    refine r_get (k := 9) (v := .ref (ea E 7)) C hP oM_0 rfl iX11 (by decide) wm_t1026 rfl rfl dX11_lasts_42 ?_
    refine lv_sipush (v := 144) hx hb dX11_lasts_45 (by decide) ?_
    refine lv_iload_n hx hb dX11_lasts_48 rfl (lv_at hl 2 rfl) ?_
    refine lv_iadd hx hb dX11_lasts_49 ?_
    refine lv_aload_n hx hb dX11_lasts_50 rfl (lv_at hl 0 rfl) ?_
    refine r_get (k := 9) (v := .ref (ea E 7)) C hP oM_0 rfl iX11 (by decide) wm_t1026 rfl rfl dX11_lasts_51 ?_
    refine lv_iload_n hx hb dX11_lasts_54 rfl (lv_at hl 2 rfl) ?_
    have h27 := (rdK_e hf).1
    refine r_ald C hP aM_7 h27 dX11_lasts_55 ?_
    refine lv_topi (fun v26 ev26 => ?_)
    replace hf := rdK_n ev26 hf
    obtain ⟨h29, σ28, eσ28, hf⟩ := wrK_e hf
    refine r_ast C hP hS aM_7 h29 dX11_lasts_56 (fun H locs hP hS => ?_)
    rw [← eσ28] at hP
    refine lv_aload_n hx hb dX11_lasts_57 rfl (lv_at hl 0 rfl) ?_
    refine r_get (k := 10) (v := .ref (ea E 8)) C hP oM_0 rfl iX11 (by decide) wm_t1027 rfl rfl dX11_lasts_58 ?_
    refine lv_sipush (v := 144) hx hb dX11_lasts_61 (by decide) ?_
    refine lv_iload_n hx hb dX11_lasts_64 rfl (lv_at hl 2 rfl) ?_
    refine lv_iadd hx hb dX11_lasts_65 ?_
    refine lv_aload_n hx hb dX11_lasts_66 rfl (lv_at hl 0 rfl) ?_
    refine r_get (k := 10) (v := .ref (ea E 8)) C hP oM_0 rfl iX11 (by decide) wm_t1027 rfl rfl dX11_lasts_67 ?_
    refine lv_iload_n hx hb dX11_lasts_70 rfl (lv_at hl 2 rfl) ?_
    have h31 := (rdK_e hf).1
    refine r_zald C hP aM_8 h31 dX11_lasts_71 ?_
    refine lv_topi (fun v30 ev30 => ?_)
    replace hf := rdK_n ev30 hf
    obtain ⟨h33, σ32, eσ32, hf⟩ := wrK_e hf
    refine r_zast C hP hS aM_8 h33 dX11_lasts_72 (fun H locs hP hS => ?_)
    rw [← eσ32] at hP
    refine lv_iinc (v := (x2 + 1)) (lv' := [(2, .int (x2 + 1)), (0, .ref (ea E 0)), (1, .int x1)]) hx hb dX11_lasts_73 hl (k := 2) rfl rfl (by decide) rfl (fun ls hl => ?_)
    refine lv_goto (tgt := 2) hx hb dX11_lasts_76 (by decide) ?_
    exact hr2 σ32 x1 (x2 + 1) hf H locs ls hP hS (lv_sub hl [1, 2, 0] rfl)
def fX11_lasts_2 : Nat → St → Int32 → Int32 → Option (Int32 × St)
  | 0 => fun _ _ _ => none
  | n + 1 => fun σ x1 x2 => fX11_lasts_2B (fX11_lasts_2 n) σ x1 x2
theorem b_fX11_lasts_2 {E : Ev} {l : Launch} {p : Program} {e : Env} {s : State} {m : MethodId} {args : Array Value} {below : List Frame} {meth : Method} {c : Code} (C : CX false E RX11 cX11_lasts 3 (some .boolean) p s m args meth c) {rr : Int32} {sr : St} : ∀ (n : Nat) (σ : St) (x1 : Int32) (x2 : Int32), fX11_lasts_2 n σ x1 x2 = some (rr, sr) → GW false l (rmD 6) E 3 p e s m args below meth c (MQ below (QI false E rr sr s.heap.size) args s 0 0 (aW false E s.heap.size)) σ 2 [(0, .ref (ea E 0)), (1, .int x1), (2, .int x2)] [] := by
  intro n
  induction n with
  | zero => intro σ x1 x2 hf; have hf : (none : Option _) = some _ := hf; cases hf
  | succ n ih => intro σ x1 x2 hf; exact b_fX11_lasts_2B C (fX11_lasts_2 n) ih σ x1 x2 hf
def fX11_lasts (σ : St) (a0 : Int32) : Option (Int32 × St) :=
fX11_lasts_2 FU σ a0 0
set_option maxHeartbeats 4000000 in
theorem c_fX11_lasts {E : Ev} {l : Launch} (hj : jW false E) (σ : St) (sz : Nat) (a0 : Int32) {rr : Int32} {sr : St} (hf : fX11_lasts σ a0 = some (rr, sr)) : Met l yX11_lasts (Cond.code yX11_lasts cX11_lasts 3 (some .boolean) :: gT) (rmD 6) (va_Pc [.ref (ea E 0), .int a0] (preW false E σ sz)) (QI false E rr sr sz) 0 0 (aW false E sz) := by
  refine r_entry (QI false E rr sr) hj (by decide) [.ref (ea E 0), .int a0] (Nat.le_of_ble_eq_true rfl) (fun p e s m args below meth c C => ?_)
  intro H locs ls hP hS hl
  have hl : lv_has ls 3 [(0, .ref (ea E 0)), (1, .int a0)] := hl
  obtain ⟨hx, hb, hr, hml, hown, hts, hlocks, hK, hX, hj⟩ := id C
  unfold fX11_lasts at hf
  refine lv_iconst (v := 0) hx hb dX11_lasts_0 (by decide) ?_
  refine lv_istore_n (lv' := [(2, .int 0), (0, .ref (ea E 0)), (1, .int a0)]) hx hb dX11_lasts_1 rfl hl (by decide) rfl (fun ls hl => ?_)
  exact b_fX11_lasts_2 C FU σ a0 0 hf H locs ls hP hS (lv_sub hl [1, 2, 0] rfl)
def fX11_reach_141 (rec93 : St → Int32 → Int32 → Option (Int32 × St)) (σ : St) (x2 : Int32) (x3 : Int32) : Option (Int32 × St) :=
(rdK 6 (σ 35) x3 fun v1 =>
(cb (fX11_lasts σ v1) fun r3 σ5 =>
(if r3 = 0 then
rec93 σ5 x2 (x3 + 1)
else
rec93 σ5 x3 (x3 + 1))))
set_option maxHeartbeats 4000000 in
theorem b_fX11_reach_141 {E : Ev} {l : Launch} {p : Program} {e : Env} {s : State} {m : MethodId} {args : Array Value} {below : List Frame} {meth : Method} {c : Code} (C : CX false E RX11 cX11_reach 4 (some .int) p s m args meth c) {rr : Int32} {sr : St} (rec93 : St → Int32 → Int32 → Option (Int32 × St)) (hr93 : ∀ (σ : St) (x2 : Int32) (x3 : Int32), rec93 σ x2 x3 = some (rr, sr) → GW false l (rmD 7) E 4 p e s m args below meth c (MQ below (QI false E rr sr s.heap.size) args s 0 0 (aW false E s.heap.size)) σ 93 [(0, .ref (ea E 0)), (2, .int x2), (3, .int x3)] []) : ∀ (σ : St) (x2 : Int32) (x3 : Int32), fX11_reach_141 rec93 σ x2 x3 = some (rr, sr) → GW false l (rmD 7) E 4 p e s m args below meth c (MQ below (QI false E rr sr s.heap.size) args s 0 0 (aW false E s.heap.size)) σ 141 [(0, .ref (ea E 0)), (2, .int x2), (3, .int x3)] [] := by
  intro σ x2 x3 hf H locs ls hP hS hl
  obtain ⟨hx, hb, hr, hml, hown, hts, hlocks, hK, hX, hj⟩ := id C
  unfold fX11_reach_141 at hf
  refine lv_aload_n hx hb dX11_reach_141 rfl (lv_at hl 0 rfl) ?_
  refine lv_aload_n hx hb dX11_reach_142 rfl (lv_at hl 0 rfl) ?_
  refine r_get (k := 57) (v := .ref (ea E 35)) C hP oM_0 rfl iX11 (by decide) wm_t1074 rfl rfl dX11_reach_143 ?_
  refine lv_iload_n hx hb dX11_reach_146 rfl (lv_at hl 2 rfl) ?_
  have h2 := (rdK_e hf).1
  refine r_ald C hP aM_35 h2 dX11_reach_147 ?_
  refine lv_topi (fun v1 ev1 => ?_)
  replace hf := rdK_n ev1 hf
  obtain ⟨r3, σ5, hc4, hf⟩ := cb_e hf
  refine r_cVi (n := 1) (As := [.int v1]) (rest := []) C (c_fX11_lasts hj σ H.size v1 hc4) oM_0 rfl gv_RX11_396 (by decide +kernel) (rmD_le (by decide) (by decide)) rfl rfl (Nat.le_of_ble_eq_true rfl) dX11_reach_148 hP hS hl.1 (fun H locs hP hS => ?_)
  refine lv_if_eq (tgt := 156) hx hb dX11_reach_151 (by decide) (fun c6 => ?_) (fun c6 => ?_)
  · replace hf := it_t c6 hf
    refine lv_iinc (v := (x3 + 1)) (lv' := [(3, .int (x3 + 1)), (0, .ref (ea E 0)), (2, .int x2)]) hx hb dX11_reach_156 hl (k := 2) rfl rfl (by decide) rfl (fun ls hl => ?_)
    refine lv_goto (tgt := 93) hx hb dX11_reach_159 (by decide) ?_
    exact hr93 σ5 x2 (x3 + 1) hf H locs ls hP hS (lv_sub hl [1, 2, 0] rfl)
  · replace hf := it_f c6 hf
    refine lv_iload_n hx hb dX11_reach_154 rfl (lv_at hl 2 rfl) ?_
    refine lv_istore_n (lv' := [(2, .int x3), (0, .ref (ea E 0)), (3, .int x3)]) hx hb dX11_reach_155 rfl hl (by decide) rfl (fun ls hl => ?_)
    refine lv_iinc (v := (x3 + 1)) (lv' := [(3, .int (x3 + 1)), (2, .int x3), (0, .ref (ea E 0))]) hx hb dX11_reach_156 hl (k := 2) rfl rfl (by decide) rfl (fun ls hl => ?_)
    refine lv_goto (tgt := 93) hx hb dX11_reach_159 (by decide) ?_
    exact hr93 σ5 x3 (x3 + 1) hf H locs ls hP hS (lv_sub hl [2, 1, 0] rfl)
def fX11_reach_93B (rec93 : St → Int32 → Int32 → Option (Int32 × St)) (σ : St) (x2 : Int32) (x3 : Int32) : Option (Int32 × St) :=
(if (σ 0 56) ≤ x3 then
some (x2, σ)
else
(rdK 6 (σ 35) x3 fun v2 =>
(if 719 < ((σ 0 1) + v2) then
rec93 σ x2 (x3 + 1)
else
(if x2 = (-1) then
fX11_reach_141 rec93 σ x2 x3
else
(rdK 6 (σ 35) x3 fun v6 =>
(rdK 6 (σ 35) x2 fun v8 =>
(if v6 < v8 then
fX11_reach_141 rec93 σ x2 x3
else
rec93 σ x2 (x3 + 1))))))))
set_option maxHeartbeats 4000000 in
theorem b_fX11_reach_93B {E : Ev} {l : Launch} {p : Program} {e : Env} {s : State} {m : MethodId} {args : Array Value} {below : List Frame} {meth : Method} {c : Code} (C : CX false E RX11 cX11_reach 4 (some .int) p s m args meth c) {rr : Int32} {sr : St} (rec93 : St → Int32 → Int32 → Option (Int32 × St)) (hr93 : ∀ (σ : St) (x2 : Int32) (x3 : Int32), rec93 σ x2 x3 = some (rr, sr) → GW false l (rmD 7) E 4 p e s m args below meth c (MQ below (QI false E rr sr s.heap.size) args s 0 0 (aW false E s.heap.size)) σ 93 [(0, .ref (ea E 0)), (2, .int x2), (3, .int x3)] []) : ∀ (σ : St) (x2 : Int32) (x3 : Int32), fX11_reach_93B rec93 σ x2 x3 = some (rr, sr) → GW false l (rmD 7) E 4 p e s m args below meth c (MQ below (QI false E rr sr s.heap.size) args s 0 0 (aW false E s.heap.size)) σ 93 [(0, .ref (ea E 0)), (2, .int x2), (3, .int x3)] [] := by
  intro σ x2 x3 hf H locs ls hP hS hl
  obtain ⟨hx, hb, hr, hml, hown, hts, hlocks, hK, hX, hj⟩ := id C
  unfold fX11_reach_93B at hf
  refine lv_iload_n hx hb dX11_reach_93 rfl (lv_at hl 2 rfl) ?_
  refine lv_aload_n hx hb dX11_reach_94 rfl (lv_at hl 0 rfl) ?_
  refine r_get (k := 56) (v := .int (σ 0 56)) C hP oM_0 rfl iX11 (by decide) wm_t1073 rfl rfl dX11_reach_95 ?_
  refine lv_icmp_ge (tgt := 162) hx hb dX11_reach_98 (by decide) (fun c1 => ?_) (fun c1 => ?_)
  · replace hf := it_t c1 hf
    refine lv_iload_n hx hb dX11_reach_162 rfl (lv_at hl 1 rfl) ?_
    cases hf
    exact r_iret C hP hS dX11_reach_163
  · replace hf := it_f c1 hf
    refine lv_aload_n hx hb dX11_reach_101 rfl (lv_at hl 0 rfl) ?_
    refine r_get (k := 1) (v := .int (σ 0 1)) C hP oM_0 rfl iX11 (by decide) wm_t1018 rfl rfl dX11_reach_102 ?_
    refine lv_aload_n hx hb dX11_reach_105 rfl (lv_at hl 0 rfl) ?_
    refine r_get (k := 57) (v := .ref (ea E 35)) C hP oM_0 rfl iX11 (by decide) wm_t1074 rfl rfl dX11_reach_106 ?_
    refine lv_iload_n hx hb dX11_reach_109 rfl (lv_at hl 2 rfl) ?_
    have h3 := (rdK_e hf).1
    refine r_ald C hP aM_35 h3 dX11_reach_110 ?_
    refine lv_topi (fun v2 ev2 => ?_)
    replace hf := rdK_n ev2 hf
    refine lv_iadd hx hb dX11_reach_111 ?_
    refine lv_sipush (v := 719) hx hb dX11_reach_112 (by decide) ?_
    refine lv_icmp_gt (tgt := 156) hx hb dX11_reach_115 (by decide) (fun c4 => ?_) (fun c4 => ?_)
    · replace hf := it_t c4 hf
      refine lv_iinc (v := (x3 + 1)) (lv' := [(3, .int (x3 + 1)), (0, .ref (ea E 0)), (2, .int x2)]) hx hb dX11_reach_156 hl (k := 2) rfl rfl (by decide) rfl (fun ls hl => ?_)
      refine lv_goto (tgt := 93) hx hb dX11_reach_159 (by decide) ?_
      exact hr93 σ x2 (x3 + 1) hf H locs ls hP hS (lv_sub hl [1, 2, 0] rfl)
    · replace hf := it_f c4 hf
      refine lv_iload_n hx hb dX11_reach_118 rfl (lv_at hl 1 rfl) ?_
      refine lv_iconst (v := (-1)) hx hb dX11_reach_119 (by decide) ?_
      refine lv_icmp_eq (tgt := 141) hx hb dX11_reach_120 (by decide) (fun c5 => ?_) (fun c5 => ?_)
      · replace hf := it_t c5 hf
        exact b_fX11_reach_141 C rec93 hr93 σ x2 x3 hf H locs ls hP hS (lv_sub hl [0, 1, 2] rfl)
      · replace hf := it_f c5 hf
        refine lv_aload_n hx hb dX11_reach_123 rfl (lv_at hl 0 rfl) ?_
        refine r_get (k := 57) (v := .ref (ea E 35)) C hP oM_0 rfl iX11 (by decide) wm_t1074 rfl rfl dX11_reach_124 ?_
        refine lv_iload_n hx hb dX11_reach_127 rfl (lv_at hl 2 rfl) ?_
        have h7 := (rdK_e hf).1
        refine r_ald C hP aM_35 h7 dX11_reach_128 ?_
        refine lv_topi (fun v6 ev6 => ?_)
        replace hf := rdK_n ev6 hf
        refine lv_aload_n hx hb dX11_reach_129 rfl (lv_at hl 0 rfl) ?_
        refine r_get (k := 57) (v := .ref (ea E 35)) C hP oM_0 rfl iX11 (by decide) wm_t1074 rfl rfl dX11_reach_130 ?_
        refine lv_iload_n hx hb dX11_reach_133 rfl (lv_at hl 1 rfl) ?_
        have h9 := (rdK_e hf).1
        refine r_ald C hP aM_35 h9 dX11_reach_134 ?_
        refine lv_topi (fun v8 ev8 => ?_)
        replace hf := rdK_n ev8 hf
        refine lv_icmp_lt (tgt := 141) hx hb dX11_reach_135 (by decide) (fun c10 => ?_) (fun c10 => ?_)
        · replace hf := it_t c10 hf
          exact b_fX11_reach_141 C rec93 hr93 σ x2 x3 hf H locs ls hP hS (lv_sub hl [0, 1, 2] rfl)
        · replace hf := it_f c10 hf
          refine lv_goto (tgt := 156) hx hb dX11_reach_138 (by decide) ?_
          refine lv_iinc (v := (x3 + 1)) (lv' := [(3, .int (x3 + 1)), (0, .ref (ea E 0)), (2, .int x2)]) hx hb dX11_reach_156 hl (k := 2) rfl rfl (by decide) rfl (fun ls hl => ?_)
          refine lv_goto (tgt := 93) hx hb dX11_reach_159 (by decide) ?_
          exact hr93 σ x2 (x3 + 1) hf H locs ls hP hS (lv_sub hl [1, 2, 0] rfl)
def fX11_reach_93 : Nat → St → Int32 → Int32 → Option (Int32 × St)
  | 0 => fun _ _ _ => none
  | n + 1 => fun σ x2 x3 => fX11_reach_93B (fX11_reach_93 n) σ x2 x3
theorem b_fX11_reach_93 {E : Ev} {l : Launch} {p : Program} {e : Env} {s : State} {m : MethodId} {args : Array Value} {below : List Frame} {meth : Method} {c : Code} (C : CX false E RX11 cX11_reach 4 (some .int) p s m args meth c) {rr : Int32} {sr : St} : ∀ (n : Nat) (σ : St) (x2 : Int32) (x3 : Int32), fX11_reach_93 n σ x2 x3 = some (rr, sr) → GW false l (rmD 7) E 4 p e s m args below meth c (MQ below (QI false E rr sr s.heap.size) args s 0 0 (aW false E s.heap.size)) σ 93 [(0, .ref (ea E 0)), (2, .int x2), (3, .int x3)] [] := by
  intro n
  induction n with
  | zero => intro σ x2 x3 hf; have hf : (none : Option _) = some _ := hf; cases hf
  | succ n ih => intro σ x2 x3 hf; exact b_fX11_reach_93B C (fX11_reach_93 n) ih σ x2 x3 hf
def fX11_reach_25 (σ : St) (x1 : Int32) : Option (Int32 × St) :=
(if (σ 0 13) = 0 then
some ((-1), σ)
else
(rdK 2 (σ 12) 0 fun v2 =>
(if v2 = (-1) then
(if x1 = (-1) then
fX11_reach_93 FU σ (-1) 0
else
(rdK 6 (σ 35) x1 fun v6 =>
(if ((σ 0 1) + v6) ≤ 719 then
(rdK 6 (σ 35) x1 fun v9 =>
(cb (fX11_lasts σ v9) fun r11 σ13 =>
(if r11 = 0 then
some (0, σ13)
else
some (1, σ13))))
else
some ((-1), σ))))
else
some ((-1), σ))))
set_option maxHeartbeats 4000000 in
theorem b_fX11_reach_25 {E : Ev} {l : Launch} {p : Program} {e : Env} {s : State} {m : MethodId} {args : Array Value} {below : List Frame} {meth : Method} {c : Code} (C : CX false E RX11 cX11_reach 4 (some .int) p s m args meth c) {rr : Int32} {sr : St} : ∀ (σ : St) (x1 : Int32), fX11_reach_25 σ x1 = some (rr, sr) → GW false l (rmD 7) E 4 p e s m args below meth c (MQ below (QI false E rr sr s.heap.size) args s 0 0 (aW false E s.heap.size)) σ 25 [(0, .ref (ea E 0)), (1, .int x1)] [] := by
  intro σ x1 hf H locs ls hP hS hl
  obtain ⟨hx, hb, hr, hml, hown, hts, hlocks, hK, hX, hj⟩ := id C
  unfold fX11_reach_25 at hf
  refine lv_aload_n hx hb dX11_reach_25 rfl (lv_at hl 0 rfl) ?_
  refine r_get (k := 13) (v := .int (σ 0 13)) C hP oM_0 rfl iX11 (by decide) wm_t1030 rfl rfl dX11_reach_26 ?_
  refine lv_if_eq (tgt := 42) hx hb dX11_reach_29 (by decide) (fun c1 => ?_) (fun c1 => ?_)
  · replace hf := it_t c1 hf
    refine lv_iconst (v := (-1)) hx hb dX11_reach_42 (by decide) ?_
    cases hf
    exact r_iret C hP hS dX11_reach_43
  · replace hf := it_f c1 hf
    refine lv_aload_n hx hb dX11_reach_32 rfl (lv_at hl 0 rfl) ?_
    refine r_get (k := 16) (v := .ref (ea E 12)) C hP oM_0 rfl iX11 (by decide) wm_t1033 rfl rfl dX11_reach_33 ?_
    refine lv_iconst (v := 0) hx hb dX11_reach_36 (by decide) ?_
    have h3 := (rdK_e hf).1
    refine r_ald C hP aM_12 h3 dX11_reach_37 ?_
    refine lv_topi (fun v2 ev2 => ?_)
    replace hf := rdK_n ev2 hf
    refine lv_iconst (v := (-1)) hx hb dX11_reach_38 (by decide) ?_
    refine lv_icmp_eq (tgt := 44) hx hb dX11_reach_39 (by decide) (fun c4 => ?_) (fun c4 => ?_)
    · replace hf := it_t c4 hf
      refine lv_iload_n hx hb dX11_reach_44 rfl (lv_at hl 1 rfl) ?_
      refine lv_iconst (v := (-1)) hx hb dX11_reach_45 (by decide) ?_
      refine lv_icmp_eq (tgt := 89) hx hb dX11_reach_46 (by decide) (fun c5 => ?_) (fun c5 => ?_)
      · replace hf := it_t c5 hf
        refine lv_iconst (v := (-1)) hx hb dX11_reach_89 (by decide) ?_
        refine lv_istore_n (lv' := [(2, .int (-1)), (0, .ref (ea E 0)), (1, .int x1)]) hx hb dX11_reach_90 rfl hl (by decide) rfl (fun ls hl => ?_)
        refine lv_iconst (v := 0) hx hb dX11_reach_91 (by decide) ?_
        refine lv_istore_n (lv' := [(3, .int 0), (2, .int (-1)), (0, .ref (ea E 0)), (1, .int x1)]) hx hb dX11_reach_92 rfl hl (by decide) rfl (fun ls hl => ?_)
        exact b_fX11_reach_93 C FU σ (-1) 0 hf H locs ls hP hS (lv_sub hl [2, 1, 0] rfl)
      · replace hf := it_f c5 hf
        refine lv_aload_n hx hb dX11_reach_49 rfl (lv_at hl 0 rfl) ?_
        refine r_get (k := 1) (v := .int (σ 0 1)) C hP oM_0 rfl iX11 (by decide) wm_t1018 rfl rfl dX11_reach_50 ?_
        refine lv_aload_n hx hb dX11_reach_53 rfl (lv_at hl 0 rfl) ?_
        refine r_get (k := 57) (v := .ref (ea E 35)) C hP oM_0 rfl iX11 (by decide) wm_t1074 rfl rfl dX11_reach_54 ?_
        refine lv_iload_n hx hb dX11_reach_57 rfl (lv_at hl 1 rfl) ?_
        have h7 := (rdK_e hf).1
        refine r_ald C hP aM_35 h7 dX11_reach_58 ?_
        refine lv_topi (fun v6 ev6 => ?_)
        replace hf := rdK_n ev6 hf
        refine lv_iadd hx hb dX11_reach_59 ?_
        refine lv_sipush (v := 719) hx hb dX11_reach_60 (by decide) ?_
        refine lv_icmp_le (tgt := 70) hx hb dX11_reach_63 (by decide) (fun c8 => ?_) (fun c8 => ?_)
        · replace hf := it_t c8 hf
          refine lv_aload_n hx hb dX11_reach_70 rfl (lv_at hl 0 rfl) ?_
          refine lv_aload_n hx hb dX11_reach_71 rfl (lv_at hl 0 rfl) ?_
          refine r_get (k := 57) (v := .ref (ea E 35)) C hP oM_0 rfl iX11 (by decide) wm_t1074 rfl rfl dX11_reach_72 ?_
          refine lv_iload_n hx hb dX11_reach_75 rfl (lv_at hl 1 rfl) ?_
          have h10 := (rdK_e hf).1
          refine r_ald C hP aM_35 h10 dX11_reach_76 ?_
          refine lv_topi (fun v9 ev9 => ?_)
          replace hf := rdK_n ev9 hf
          obtain ⟨r11, σ13, hc12, hf⟩ := cb_e hf
          refine r_cVi (n := 1) (As := [.int v9]) (rest := []) C (c_fX11_lasts hj σ H.size v9 hc12) oM_0 rfl gv_RX11_396 (by decide +kernel) (rmD_le (by decide) (by decide)) rfl rfl (Nat.le_of_ble_eq_true rfl) dX11_reach_77 hP hS hl.1 (fun H locs hP hS => ?_)
          refine lv_if_eq (tgt := 87) hx hb dX11_reach_80 (by decide) (fun c14 => ?_) (fun c14 => ?_)
          · replace hf := it_t c14 hf
            refine lv_iconst (v := 0) hx hb dX11_reach_87 (by decide) ?_
            cases hf
            exact r_iret C hP hS dX11_reach_88
          · replace hf := it_f c14 hf
            refine lv_iconst (v := 1) hx hb dX11_reach_83 (by decide) ?_
            refine lv_goto (tgt := 88) hx hb dX11_reach_84 (by decide) ?_
            cases hf
            exact r_iret C hP hS dX11_reach_88
        · replace hf := it_f c8 hf
          refine lv_iconst (v := (-1)) hx hb dX11_reach_66 (by decide) ?_
          refine lv_goto (tgt := 88) hx hb dX11_reach_67 (by decide) ?_
          cases hf
          exact r_iret C hP hS dX11_reach_88
    · replace hf := it_f c4 hf
      refine lv_iconst (v := (-1)) hx hb dX11_reach_42 (by decide) ?_
      cases hf
      exact r_iret C hP hS dX11_reach_43
def fX11_reach (σ : St) (a0 : Int32) : Option (Int32 × St) :=
(nmS (st_put σ 0 0 0) fun σ1 =>
(if a0 = (-1) then
fX11_reach_25 σ1 a0
else
(if (fX11_isIn a0 0 ((σ1 0 56) - 1)) = 0 then
some ((-1), σ1)
else
fX11_reach_25 σ1 a0)))
set_option maxHeartbeats 4000000 in
theorem c_fX11_reach {E : Ev} {l : Launch} (hj : jW false E) (σ : St) (sz : Nat) (a0 : Int32) {rr : Int32} {sr : St} (hf : fX11_reach σ a0 = some (rr, sr)) : Met l yX11_reach (Cond.code yX11_reach cX11_reach 4 (some .int) :: gT) (rmD 7) (va_Pc [.ref (ea E 0), .int a0] (preW false E σ sz)) (QI false E rr sr sz) 0 0 (aW false E sz) := by
  refine r_entry (QI false E rr sr) hj (by decide) [.ref (ea E 0), .int a0] (Nat.le_of_ble_eq_true rfl) (fun p e s m args below meth c C => ?_)
  intro H locs ls hP hS hl
  have hl : lv_has ls 4 [(0, .ref (ea E 0)), (1, .int a0)] := hl
  obtain ⟨hx, hb, hr, hml, hown, hts, hlocks, hK, hX, hj⟩ := id C
  unfold fX11_reach at hf
  refine lv_aload_n hx hb dX11_reach_0 rfl (lv_at hl 0 rfl) ?_
  refine lv_iconst (v := 0) hx hb dX11_reach_1 (by decide) ?_
  refine r_put (k := 0) (x := 0) C hP hS tyX11 tyX11_ok nmX11 oM_0 rfl iX11 (by decide) wm_t1017 rfl rfl sM_0_0 rfl rfl (Nat.le_of_ble_eq_true rfl) dX11_reach_2 (fun H locs hP hS => ?_)
  obtain ⟨σ1, eσ1, hf⟩ := nmS_e hf
  rw [← eσ1] at hP
  refine lv_iload_n hx hb dX11_reach_5 rfl (lv_at hl 1 rfl) ?_
  refine lv_iconst (v := (-1)) hx hb dX11_reach_6 (by decide) ?_
  refine lv_icmp_eq (tgt := 25) hx hb dX11_reach_7 (by decide) (fun c2 => ?_) (fun c2 => ?_)
  · replace hf := it_t c2 hf
    exact b_fX11_reach_25 C σ1 a0 hf H locs ls hP hS (lv_sub hl [0, 1] rfl)
  · replace hf := it_f c2 hf
    refine lv_aload_n hx hb dX11_reach_10 rfl (lv_at hl 0 rfl) ?_
    refine lv_iload_n hx hb dX11_reach_11 rfl (lv_at hl 1 rfl) ?_
    refine lv_iconst (v := 0) hx hb dX11_reach_12 (by decide) ?_
    refine lv_aload_n hx hb dX11_reach_13 rfl (lv_at hl 0 rfl) ?_
    refine r_get (k := 56) (v := .int (σ1 0 56)) C hP oM_0 rfl iX11 (by decide) wm_t1073 rfl rfl dX11_reach_14 ?_
    refine lv_iconst (v := 1) hx hb dX11_reach_17 (by decide) ?_
    refine lv_isub hx hb dX11_reach_18 ?_
    refine r_cVi (n := 3) (As := [.int a0, .int 0, .int ((σ1 0 56) - 1)]) (rest := []) C (c_fX11_isIn hj σ1 H.size a0 0 ((σ1 0 56) - 1)) oM_0 rfl gv_RX11_144 (by decide +kernel) (rmD_le (by decide) (by decide)) rfl rfl (Nat.le_of_ble_eq_true rfl) dX11_reach_19 hP hS hl.1 (fun H locs hP hS => ?_)
    refine lv_if_eq (tgt := 42) hx hb dX11_reach_22 (by decide) (fun c3 => ?_) (fun c3 => ?_)
    · replace hf := it_t c3 hf
      refine lv_iconst (v := (-1)) hx hb dX11_reach_42 (by decide) ?_
      cases hf
      exact r_iret C hP hS dX11_reach_43
    · replace hf := it_f c3 hf
      exact b_fX11_reach_25 C σ1 a0 hf H locs ls hP hS (lv_sub hl [0, 1] rfl)
def fX11_list (σ : St) (a0 : Int32) (a1 : Int32) (a2 : Int32) (a3 : Int32) : Option (Int32 × St) :=
(nmS (st_put σ 0 0 0) fun σ1 =>
(if (fX11_isIn a0 0 7) = 0 then
some ((-1), σ1)
else
(if (fX11_isIn a1 0 11) = 0 then
some ((-1), σ1)
else
(if (fX11_isIn a2 0 2) = 0 then
some ((-1), σ1)
else
(if (σ1 0 58) = 200 then
some ((-1), σ1)
else
(wrK 200 σ1 36 (σ1 0 58) a0 fun σ6 =>
(wrK 200 σ6 37 (σ6 0 58) a1 fun σ8 =>
(wrK 200 σ8 38 (σ8 0 58) a2 fun σ10 =>
(wrK 200 σ10 39 (σ10 0 58) (vp_nar .boolean a3) fun σ12 =>
(nmS (st_put σ12 0 58 ((σ12 0 58) + 1)) fun σ14 =>
some ((σ14 0 58), σ14)))))))))))
set_option maxHeartbeats 4000000 in
theorem c_fX11_list {E : Ev} {l : Launch} (hj : jW false E) (σ : St) (sz : Nat) (a0 : Int32) (a1 : Int32) (a2 : Int32) (a3 : Int32) {rr : Int32} {sr : St} (hf : fX11_list σ a0 a1 a2 a3 = some (rr, sr)) : Met l yX11_list (Cond.code yX11_list cX11_list 5 (some .int) :: gT) (rmD 2) (va_Pc [.ref (ea E 0), .int a0, .int a1, .int a2, .int a3] (preW false E σ sz)) (QI false E rr sr sz) 0 0 (aW false E sz) := by
  refine r_entry (QI false E rr sr) hj (by decide) [.ref (ea E 0), .int a0, .int a1, .int a2, .int a3] (Nat.le_of_ble_eq_true rfl) (fun p e s m args below meth c C => ?_)
  intro H locs ls hP hS hl
  have hl : lv_has ls 5 [(0, .ref (ea E 0)), (1, .int a0), (2, .int a1), (3, .int a2), (4, .int a3)] := hl
  obtain ⟨hx, hb, hr, hml, hown, hts, hlocks, hK, hX, hj⟩ := id C
  unfold fX11_list at hf
  refine lv_aload_n hx hb dX11_list_0 rfl (lv_at hl 0 rfl) ?_
  refine lv_iconst (v := 0) hx hb dX11_list_1 (by decide) ?_
  refine r_put (k := 0) (x := 0) C hP hS tyX11 tyX11_ok nmX11 oM_0 rfl iX11 (by decide) wm_t1017 rfl rfl sM_0_0 rfl rfl (Nat.le_of_ble_eq_true rfl) dX11_list_2 (fun H locs hP hS => ?_)
  obtain ⟨σ1, eσ1, hf⟩ := nmS_e hf
  rw [← eσ1] at hP
  refine lv_aload_n hx hb dX11_list_5 rfl (lv_at hl 0 rfl) ?_
  refine lv_iload_n hx hb dX11_list_6 rfl (lv_at hl 1 rfl) ?_
  refine lv_iconst (v := 0) hx hb dX11_list_7 (by decide) ?_
  refine lv_bipush (v := 7) hx hb dX11_list_8 (by decide) ?_
  refine r_cVi (n := 3) (As := [.int a0, .int 0, .int 7]) (rest := []) C (c_fX11_isIn hj σ1 H.size a0 0 7) oM_0 rfl gv_RX11_144 (by decide +kernel) (rmD_le (by decide) (by decide)) rfl rfl (Nat.le_of_ble_eq_true rfl) dX11_list_10 hP hS hl.1 (fun H locs hP hS => ?_)
  refine lv_if_eq (tgt := 47) hx hb dX11_list_13 (by decide) (fun c2 => ?_) (fun c2 => ?_)
  · replace hf := it_t c2 hf
    refine lv_iconst (v := (-1)) hx hb dX11_list_47 (by decide) ?_
    cases hf
    exact r_iret C hP hS dX11_list_48
  · replace hf := it_f c2 hf
    refine lv_aload_n hx hb dX11_list_16 rfl (lv_at hl 0 rfl) ?_
    refine lv_iload_n hx hb dX11_list_17 rfl (lv_at hl 2 rfl) ?_
    refine lv_iconst (v := 0) hx hb dX11_list_18 (by decide) ?_
    refine lv_bipush (v := 11) hx hb dX11_list_19 (by decide) ?_
    refine r_cVi (n := 3) (As := [.int a1, .int 0, .int 11]) (rest := []) C (c_fX11_isIn hj σ1 H.size a1 0 11) oM_0 rfl gv_RX11_144 (by decide +kernel) (rmD_le (by decide) (by decide)) rfl rfl (Nat.le_of_ble_eq_true rfl) dX11_list_21 hP hS hl.1 (fun H locs hP hS => ?_)
    refine lv_if_eq (tgt := 47) hx hb dX11_list_24 (by decide) (fun c3 => ?_) (fun c3 => ?_)
    · replace hf := it_t c3 hf
      refine lv_iconst (v := (-1)) hx hb dX11_list_47 (by decide) ?_
      cases hf
      exact r_iret C hP hS dX11_list_48
    · replace hf := it_f c3 hf
      refine lv_aload_n hx hb dX11_list_27 rfl (lv_at hl 0 rfl) ?_
      refine lv_iload_n hx hb dX11_list_28 rfl (lv_at hl 3 rfl) ?_
      refine lv_iconst (v := 0) hx hb dX11_list_29 (by decide) ?_
      refine lv_iconst (v := 2) hx hb dX11_list_30 (by decide) ?_
      refine r_cVi (n := 3) (As := [.int a2, .int 0, .int 2]) (rest := []) C (c_fX11_isIn hj σ1 H.size a2 0 2) oM_0 rfl gv_RX11_144 (by decide +kernel) (rmD_le (by decide) (by decide)) rfl rfl (Nat.le_of_ble_eq_true rfl) dX11_list_31 hP hS hl.1 (fun H locs hP hS => ?_)
      refine lv_if_eq (tgt := 47) hx hb dX11_list_34 (by decide) (fun c4 => ?_) (fun c4 => ?_)
      · replace hf := it_t c4 hf
        refine lv_iconst (v := (-1)) hx hb dX11_list_47 (by decide) ?_
        cases hf
        exact r_iret C hP hS dX11_list_48
      · replace hf := it_f c4 hf
        refine lv_aload_n hx hb dX11_list_37 rfl (lv_at hl 0 rfl) ?_
        refine r_get (k := 58) (v := .int (σ1 0 58)) C hP oM_0 rfl iX11 (by decide) wm_t1075 rfl rfl dX11_list_38 ?_
        refine lv_sipush (v := 200) hx hb dX11_list_41 (by decide) ?_
        refine lv_icmp_ne (tgt := 49) hx hb dX11_list_44 (by decide) (fun c5 => ?_) (fun c5 => ?_)
        · replace hf := it_f c5 hf
          refine lv_aload_n hx hb dX11_list_49 rfl (lv_at hl 0 rfl) ?_
          refine r_get (k := 59) (v := .ref (ea E 36)) C hP oM_0 rfl iX11 (by decide) wm_t1076 rfl rfl dX11_list_50 ?_
          refine lv_aload_n hx hb dX11_list_53 rfl (lv_at hl 0 rfl) ?_
          refine r_get (k := 58) (v := .int (σ1 0 58)) C hP oM_0 rfl iX11 (by decide) wm_t1075 rfl rfl dX11_list_54 ?_
          refine lv_iload_n hx hb dX11_list_57 rfl (lv_at hl 1 rfl) ?_
          obtain ⟨h7, σ6, eσ6, hf⟩ := wrK_e hf
          refine r_ast C hP hS aM_36 h7 dX11_list_58 (fun H locs hP hS => ?_)
          rw [← eσ6] at hP
          refine lv_aload_n hx hb dX11_list_59 rfl (lv_at hl 0 rfl) ?_
          refine r_get (k := 60) (v := .ref (ea E 37)) C hP oM_0 rfl iX11 (by decide) wm_t1077 rfl rfl dX11_list_60 ?_
          refine lv_aload_n hx hb dX11_list_63 rfl (lv_at hl 0 rfl) ?_
          refine r_get (k := 58) (v := .int (σ6 0 58)) C hP oM_0 rfl iX11 (by decide) wm_t1075 rfl rfl dX11_list_64 ?_
          refine lv_iload_n hx hb dX11_list_67 rfl (lv_at hl 2 rfl) ?_
          obtain ⟨h9, σ8, eσ8, hf⟩ := wrK_e hf
          refine r_ast C hP hS aM_37 h9 dX11_list_68 (fun H locs hP hS => ?_)
          rw [← eσ8] at hP
          refine lv_aload_n hx hb dX11_list_69 rfl (lv_at hl 0 rfl) ?_
          refine r_get (k := 61) (v := .ref (ea E 38)) C hP oM_0 rfl iX11 (by decide) wm_t1078 rfl rfl dX11_list_70 ?_
          refine lv_aload_n hx hb dX11_list_73 rfl (lv_at hl 0 rfl) ?_
          refine r_get (k := 58) (v := .int (σ8 0 58)) C hP oM_0 rfl iX11 (by decide) wm_t1075 rfl rfl dX11_list_74 ?_
          refine lv_iload_n hx hb dX11_list_77 rfl (lv_at hl 3 rfl) ?_
          obtain ⟨h11, σ10, eσ10, hf⟩ := wrK_e hf
          refine r_ast C hP hS aM_38 h11 dX11_list_78 (fun H locs hP hS => ?_)
          rw [← eσ10] at hP
          refine lv_aload_n hx hb dX11_list_79 rfl (lv_at hl 0 rfl) ?_
          refine r_get (k := 62) (v := .ref (ea E 39)) C hP oM_0 rfl iX11 (by decide) wm_t1079 rfl rfl dX11_list_80 ?_
          refine lv_aload_n hx hb dX11_list_83 rfl (lv_at hl 0 rfl) ?_
          refine r_get (k := 58) (v := .int (σ10 0 58)) C hP oM_0 rfl iX11 (by decide) wm_t1075 rfl rfl dX11_list_84 ?_
          refine lv_iload hx hb dX11_list_87 (lv_at hl 4 rfl) ?_
          obtain ⟨h13, σ12, eσ12, hf⟩ := wrK_e hf
          refine r_zast C hP hS aM_39 h13 dX11_list_89 (fun H locs hP hS => ?_)
          rw [← eσ12] at hP
          refine lv_aload_n hx hb dX11_list_90 rfl (lv_at hl 0 rfl) ?_
          refine lv_aload_n hx hb dX11_list_91 rfl (lv_at hl 0 rfl) ?_
          refine r_get (k := 58) (v := .int (σ12 0 58)) C hP oM_0 rfl iX11 (by decide) wm_t1075 rfl rfl dX11_list_92 ?_
          refine lv_iconst (v := 1) hx hb dX11_list_95 (by decide) ?_
          refine lv_iadd hx hb dX11_list_96 ?_
          refine r_put (k := 58) (x := ((σ12 0 58) + 1)) C hP hS tyX11 tyX11_ok nmX11 oM_0 rfl iX11 (by decide) wm_t1075 rfl rfl sM_0_58 rfl rfl (Nat.le_of_ble_eq_true rfl) dX11_list_97 (fun H locs hP hS => ?_)
          obtain ⟨σ14, eσ14, hf⟩ := nmS_e hf
          rw [← eσ14] at hP
          refine lv_aload_n hx hb dX11_list_100 rfl (lv_at hl 0 rfl) ?_
          refine r_get (k := 58) (v := .int (σ14 0 58)) C hP oM_0 rfl iX11 (by decide) wm_t1075 rfl rfl dX11_list_101 ?_
          cases hf
          exact r_iret C hP hS dX11_list_104
        · replace hf := it_t c5 hf
          refine lv_iconst (v := (-1)) hx hb dX11_list_47 (by decide) ?_
          cases hf
          exact r_iret C hP hS dX11_list_48
def fX11_countOf_68 (σ : St) (rec6 : Int32 → Int32 → Int32 → Int32 → Int32 → Int32 → Option Int32) (x1 : Int32) (x2 : Int32) (x3 : Int32) (x4 : Int32) (x5 : Int32) (x6 : Int32) (y0 : Int32) : Option Int32 :=
(if y0 = 0 then
rec6 x1 x2 x3 x4 x5 (x6 + 1)
else
(rdK 200 (σ 39) x6 fun v2 =>
(if v2 = 0 then
(if x4 = 0 then
rec6 x1 x2 x3 x4 (x5 + 1) (x6 + 1)
else
rec6 x1 x2 x3 x4 x5 (x6 + 1))
else
rec6 x1 x2 x3 x4 (x5 + 1) (x6 + 1))))
set_option maxHeartbeats 4000000 in
theorem b_fX11_countOf_68 {E : Ev} {l : Launch} {p : Program} {e : Env} {s : State} {m : MethodId} {args : Array Value} {below : List Frame} {meth : Method} {c : Code} (σ : St) (C : CX false E RX11 cX11_countOf 8 (some .int) p s m args meth c) {rr : Int32} (rec6 : Int32 → Int32 → Int32 → Int32 → Int32 → Int32 → Option Int32) (hr6 : ∀  (x1 : Int32) (x2 : Int32) (x3 : Int32) (x4 : Int32) (x5 : Int32) (x6 : Int32), rec6 x1 x2 x3 x4 x5 x6 = some rr → GW false l (rmD 1) E 8 p e s m args below meth c (MQ below (QI false E rr σ s.heap.size) args s 0 0 (aW false E s.heap.size)) σ 6 [(0, .ref (ea E 0)), (1, .int x1), (2, .int x2), (3, .int x3), (4, .int x4), (5, .int x5), (6, .int x6)] []) : ∀  (x1 : Int32) (x2 : Int32) (x3 : Int32) (x4 : Int32) (x5 : Int32) (x6 : Int32) (y0 : Int32), fX11_countOf_68 σ rec6 x1 x2 x3 x4 x5 x6 y0 = some rr → GW false l (rmD 1) E 8 p e s m args below meth c (MQ below (QI false E rr σ s.heap.size) args s 0 0 (aW false E s.heap.size)) σ 68 [(0, .ref (ea E 0)), (1, .int x1), (2, .int x2), (3, .int x3), (4, .int x4), (5, .int x5), (6, .int x6)] [.int y0] := by
  intro x1 x2 x3 x4 x5 x6 y0 hf H locs ls hP hS hl
  obtain ⟨hx, hb, hr, hml, hown, hts, hlocks, hK, hX, hj⟩ := id C
  unfold fX11_countOf_68 at hf
  refine lv_istore (lv' := [(7, .int y0), (0, .ref (ea E 0)), (1, .int x1), (2, .int x2), (3, .int x3), (4, .int x4), (5, .int x5), (6, .int x6)]) hx hb dX11_countOf_68 hl (by decide) rfl (fun ls hl => ?_)
  refine lv_iload hx hb dX11_countOf_70 (lv_at hl 0 rfl) ?_
  refine lv_if_eq (tgt := 96) hx hb dX11_countOf_72 (by decide) (fun c1 => ?_) (fun c1 => ?_)
  · replace hf := it_t c1 hf
    refine lv_iinc (v := (x6 + 1)) (lv' := [(6, .int (x6 + 1)), (7, .int y0), (0, .ref (ea E 0)), (1, .int x1), (2, .int x2), (3, .int x3), (4, .int x4), (5, .int x5)]) hx hb dX11_countOf_96 hl (k := 7) rfl rfl (by decide) rfl (fun ls hl => ?_)
    refine lv_goto (tgt := 6) hx hb dX11_countOf_99 (by decide) ?_
    exact hr6 x1 x2 x3 x4 x5 (x6 + 1) hf H locs ls hP hS (lv_sub hl [2, 3, 4, 5, 6, 7, 0] rfl)
  · replace hf := it_f c1 hf
    refine lv_aload_n hx hb dX11_countOf_75 rfl (lv_at hl 1 rfl) ?_
    refine r_get (k := 62) (v := .ref (ea E 39)) C hP oM_0 rfl iX11 (by decide) wm_t1079 rfl rfl dX11_countOf_76 ?_
    refine lv_iload hx hb dX11_countOf_79 (lv_at hl 7 rfl) ?_
    have h3 := (rdK_e hf).1
    refine r_zald C hP aM_39 h3 dX11_countOf_81 ?_
    refine lv_topi (fun v2 ev2 => ?_)
    replace hf := rdK_n ev2 hf
    refine lv_if_ne (tgt := 90) hx hb dX11_countOf_82 (by decide) (fun c4 => ?_) (fun c4 => ?_)
    · replace hf := it_f c4 hf
      refine lv_iload hx hb dX11_countOf_90 (lv_at hl 6 rfl) ?_
      refine lv_iconst (v := 1) hx hb dX11_countOf_92 (by decide) ?_
      refine lv_iadd hx hb dX11_countOf_93 ?_
      refine lv_istore (lv' := [(5, .int (x5 + 1)), (7, .int y0), (0, .ref (ea E 0)), (1, .int x1), (2, .int x2), (3, .int x3), (4, .int x4), (6, .int x6)]) hx hb dX11_countOf_94 hl (by decide) rfl (fun ls hl => ?_)
      refine lv_iinc (v := (x6 + 1)) (lv' := [(6, .int (x6 + 1)), (5, .int (x5 + 1)), (7, .int y0), (0, .ref (ea E 0)), (1, .int x1), (2, .int x2), (3, .int x3), (4, .int x4)]) hx hb dX11_countOf_96 hl (k := 7) rfl rfl (by decide) rfl (fun ls hl => ?_)
      refine lv_goto (tgt := 6) hx hb dX11_countOf_99 (by decide) ?_
      exact hr6 x1 x2 x3 x4 (x5 + 1) (x6 + 1) hf H locs ls hP hS (lv_sub hl [3, 4, 5, 6, 7, 1, 0] rfl)
    · replace hf := it_t c4 hf
      refine lv_iload hx hb dX11_countOf_85 (lv_at hl 5 rfl) ?_
      refine lv_if_ne (tgt := 96) hx hb dX11_countOf_87 (by decide) (fun c5 => ?_) (fun c5 => ?_)
      · replace hf := it_f c5 hf
        refine lv_iinc (v := (x6 + 1)) (lv' := [(6, .int (x6 + 1)), (7, .int y0), (0, .ref (ea E 0)), (1, .int x1), (2, .int x2), (3, .int x3), (4, .int x4), (5, .int x5)]) hx hb dX11_countOf_96 hl (k := 7) rfl rfl (by decide) rfl (fun ls hl => ?_)
        refine lv_goto (tgt := 6) hx hb dX11_countOf_99 (by decide) ?_
        exact hr6 x1 x2 x3 x4 x5 (x6 + 1) hf H locs ls hP hS (lv_sub hl [2, 3, 4, 5, 6, 7, 0] rfl)
      · replace hf := it_t c5 hf
        refine lv_iload hx hb dX11_countOf_90 (lv_at hl 6 rfl) ?_
        refine lv_iconst (v := 1) hx hb dX11_countOf_92 (by decide) ?_
        refine lv_iadd hx hb dX11_countOf_93 ?_
        refine lv_istore (lv' := [(5, .int (x5 + 1)), (7, .int y0), (0, .ref (ea E 0)), (1, .int x1), (2, .int x2), (3, .int x3), (4, .int x4), (6, .int x6)]) hx hb dX11_countOf_94 hl (by decide) rfl (fun ls hl => ?_)
        refine lv_iinc (v := (x6 + 1)) (lv' := [(6, .int (x6 + 1)), (5, .int (x5 + 1)), (7, .int y0), (0, .ref (ea E 0)), (1, .int x1), (2, .int x2), (3, .int x3), (4, .int x4)]) hx hb dX11_countOf_96 hl (k := 7) rfl rfl (by decide) rfl (fun ls hl => ?_)
        refine lv_goto (tgt := 6) hx hb dX11_countOf_99 (by decide) ?_
        exact hr6 x1 x2 x3 x4 (x5 + 1) (x6 + 1) hf H locs ls hP hS (lv_sub hl [3, 4, 5, 6, 7, 1, 0] rfl)
def fX11_countOf_67 (σ : St) (rec6 : Int32 → Int32 → Int32 → Int32 → Int32 → Int32 → Option Int32) (x1 : Int32) (x2 : Int32) (x3 : Int32) (x4 : Int32) (x5 : Int32) (x6 : Int32) : Option Int32 :=
fX11_countOf_68 σ rec6 x1 x2 x3 x4 x5 x6 0
set_option maxHeartbeats 4000000 in
theorem b_fX11_countOf_67 {E : Ev} {l : Launch} {p : Program} {e : Env} {s : State} {m : MethodId} {args : Array Value} {below : List Frame} {meth : Method} {c : Code} (σ : St) (C : CX false E RX11 cX11_countOf 8 (some .int) p s m args meth c) {rr : Int32} (rec6 : Int32 → Int32 → Int32 → Int32 → Int32 → Int32 → Option Int32) (hr6 : ∀  (x1 : Int32) (x2 : Int32) (x3 : Int32) (x4 : Int32) (x5 : Int32) (x6 : Int32), rec6 x1 x2 x3 x4 x5 x6 = some rr → GW false l (rmD 1) E 8 p e s m args below meth c (MQ below (QI false E rr σ s.heap.size) args s 0 0 (aW false E s.heap.size)) σ 6 [(0, .ref (ea E 0)), (1, .int x1), (2, .int x2), (3, .int x3), (4, .int x4), (5, .int x5), (6, .int x6)] []) : ∀  (x1 : Int32) (x2 : Int32) (x3 : Int32) (x4 : Int32) (x5 : Int32) (x6 : Int32), fX11_countOf_67 σ rec6 x1 x2 x3 x4 x5 x6 = some rr → GW false l (rmD 1) E 8 p e s m args below meth c (MQ below (QI false E rr σ s.heap.size) args s 0 0 (aW false E s.heap.size)) σ 67 [(0, .ref (ea E 0)), (1, .int x1), (2, .int x2), (3, .int x3), (4, .int x4), (5, .int x5), (6, .int x6)] [] := by
  intro x1 x2 x3 x4 x5 x6 hf H locs ls hP hS hl
  obtain ⟨hx, hb, hr, hml, hown, hts, hlocks, hK, hX, hj⟩ := id C
  unfold fX11_countOf_67 at hf
  refine lv_iconst (v := 0) hx hb dX11_countOf_67 (by decide) ?_
  exact b_fX11_countOf_68 σ C rec6 hr6 x1 x2 x3 x4 x5 x6 0 hf H locs ls hP hS (lv_sub hl [0, 1, 2, 3, 4, 5, 6] rfl)
def fX11_countOf_47 (σ : St) (rec6 : Int32 → Int32 → Int32 → Int32 → Int32 → Int32 → Option Int32) (x1 : Int32) (x2 : Int32) (x3 : Int32) (x4 : Int32) (x5 : Int32) (x6 : Int32) : Option Int32 :=
(if x3 = (-1) then
fX11_countOf_68 σ rec6 x1 x2 x3 x4 x5 x6 1
else
(rdK 200 (σ 38) x6 fun v2 =>
(if v2 = x3 then
fX11_countOf_68 σ rec6 x1 x2 x3 x4 x5 x6 1
else
fX11_countOf_67 σ rec6 x1 x2 x3 x4 x5 x6)))
set_option maxHeartbeats 4000000 in
theorem b_fX11_countOf_47 {E : Ev} {l : Launch} {p : Program} {e : Env} {s : State} {m : MethodId} {args : Array Value} {below : List Frame} {meth : Method} {c : Code} (σ : St) (C : CX false E RX11 cX11_countOf 8 (some .int) p s m args meth c) {rr : Int32} (rec6 : Int32 → Int32 → Int32 → Int32 → Int32 → Int32 → Option Int32) (hr6 : ∀  (x1 : Int32) (x2 : Int32) (x3 : Int32) (x4 : Int32) (x5 : Int32) (x6 : Int32), rec6 x1 x2 x3 x4 x5 x6 = some rr → GW false l (rmD 1) E 8 p e s m args below meth c (MQ below (QI false E rr σ s.heap.size) args s 0 0 (aW false E s.heap.size)) σ 6 [(0, .ref (ea E 0)), (1, .int x1), (2, .int x2), (3, .int x3), (4, .int x4), (5, .int x5), (6, .int x6)] []) : ∀  (x1 : Int32) (x2 : Int32) (x3 : Int32) (x4 : Int32) (x5 : Int32) (x6 : Int32), fX11_countOf_47 σ rec6 x1 x2 x3 x4 x5 x6 = some rr → GW false l (rmD 1) E 8 p e s m args below meth c (MQ below (QI false E rr σ s.heap.size) args s 0 0 (aW false E s.heap.size)) σ 47 [(0, .ref (ea E 0)), (1, .int x1), (2, .int x2), (3, .int x3), (4, .int x4), (5, .int x5), (6, .int x6)] [] := by
  intro x1 x2 x3 x4 x5 x6 hf H locs ls hP hS hl
  obtain ⟨hx, hb, hr, hml, hown, hts, hlocks, hK, hX, hj⟩ := id C
  unfold fX11_countOf_47 at hf
  refine lv_iload_n hx hb dX11_countOf_47 rfl (lv_at hl 3 rfl) ?_
  refine lv_iconst (v := (-1)) hx hb dX11_countOf_48 (by decide) ?_
  refine lv_icmp_eq (tgt := 63) hx hb dX11_countOf_49 (by decide) (fun c1 => ?_) (fun c1 => ?_)
  · replace hf := it_t c1 hf
    refine lv_iconst (v := 1) hx hb dX11_countOf_63 (by decide) ?_
    refine lv_goto (tgt := 68) hx hb dX11_countOf_64 (by decide) ?_
    exact b_fX11_countOf_68 σ C rec6 hr6 x1 x2 x3 x4 x5 x6 1 hf H locs ls hP hS (lv_sub hl [0, 1, 2, 3, 4, 5, 6] rfl)
  · replace hf := it_f c1 hf
    refine lv_aload_n hx hb dX11_countOf_52 rfl (lv_at hl 0 rfl) ?_
    refine r_get (k := 61) (v := .ref (ea E 38)) C hP oM_0 rfl iX11 (by decide) wm_t1078 rfl rfl dX11_countOf_53 ?_
    refine lv_iload hx hb dX11_countOf_56 (lv_at hl 6 rfl) ?_
    have h3 := (rdK_e hf).1
    refine r_ald C hP aM_38 h3 dX11_countOf_58 ?_
    refine lv_topi (fun v2 ev2 => ?_)
    replace hf := rdK_n ev2 hf
    refine lv_iload_n hx hb dX11_countOf_59 rfl (lv_at hl 3 rfl) ?_
    refine lv_icmp_ne (tgt := 67) hx hb dX11_countOf_60 (by decide) (fun c4 => ?_) (fun c4 => ?_)
    · replace hf := it_f c4 hf
      exact b_fX11_countOf_67 σ C rec6 hr6 x1 x2 x3 x4 x5 x6 hf H locs ls hP hS (lv_sub hl [0, 1, 2, 3, 4, 5, 6] rfl)
    · replace hf := it_t c4 hf
      refine lv_iconst (v := 1) hx hb dX11_countOf_63 (by decide) ?_
      refine lv_goto (tgt := 68) hx hb dX11_countOf_64 (by decide) ?_
      exact b_fX11_countOf_68 σ C rec6 hr6 x1 x2 x3 x4 x5 x6 1 hf H locs ls hP hS (lv_sub hl [0, 1, 2, 3, 4, 5, 6] rfl)
def fX11_countOf_31 (σ : St) (rec6 : Int32 → Int32 → Int32 → Int32 → Int32 → Int32 → Option Int32) (x1 : Int32) (x2 : Int32) (x3 : Int32) (x4 : Int32) (x5 : Int32) (x6 : Int32) : Option Int32 :=
(if x2 = (-1) then
fX11_countOf_47 σ rec6 x1 x2 x3 x4 x5 x6
else
(rdK 200 (σ 37) x6 fun v2 =>
(if v2 = x2 then
fX11_countOf_47 σ rec6 x1 x2 x3 x4 x5 x6
else
fX11_countOf_67 σ rec6 x1 x2 x3 x4 x5 x6)))
set_option maxHeartbeats 4000000 in
theorem b_fX11_countOf_31 {E : Ev} {l : Launch} {p : Program} {e : Env} {s : State} {m : MethodId} {args : Array Value} {below : List Frame} {meth : Method} {c : Code} (σ : St) (C : CX false E RX11 cX11_countOf 8 (some .int) p s m args meth c) {rr : Int32} (rec6 : Int32 → Int32 → Int32 → Int32 → Int32 → Int32 → Option Int32) (hr6 : ∀  (x1 : Int32) (x2 : Int32) (x3 : Int32) (x4 : Int32) (x5 : Int32) (x6 : Int32), rec6 x1 x2 x3 x4 x5 x6 = some rr → GW false l (rmD 1) E 8 p e s m args below meth c (MQ below (QI false E rr σ s.heap.size) args s 0 0 (aW false E s.heap.size)) σ 6 [(0, .ref (ea E 0)), (1, .int x1), (2, .int x2), (3, .int x3), (4, .int x4), (5, .int x5), (6, .int x6)] []) : ∀  (x1 : Int32) (x2 : Int32) (x3 : Int32) (x4 : Int32) (x5 : Int32) (x6 : Int32), fX11_countOf_31 σ rec6 x1 x2 x3 x4 x5 x6 = some rr → GW false l (rmD 1) E 8 p e s m args below meth c (MQ below (QI false E rr σ s.heap.size) args s 0 0 (aW false E s.heap.size)) σ 31 [(0, .ref (ea E 0)), (1, .int x1), (2, .int x2), (3, .int x3), (4, .int x4), (5, .int x5), (6, .int x6)] [] := by
  intro x1 x2 x3 x4 x5 x6 hf H locs ls hP hS hl
  obtain ⟨hx, hb, hr, hml, hown, hts, hlocks, hK, hX, hj⟩ := id C
  unfold fX11_countOf_31 at hf
  refine lv_iload_n hx hb dX11_countOf_31 rfl (lv_at hl 2 rfl) ?_
  refine lv_iconst (v := (-1)) hx hb dX11_countOf_32 (by decide) ?_
  refine lv_icmp_eq (tgt := 47) hx hb dX11_countOf_33 (by decide) (fun c1 => ?_) (fun c1 => ?_)
  · replace hf := it_t c1 hf
    exact b_fX11_countOf_47 σ C rec6 hr6 x1 x2 x3 x4 x5 x6 hf H locs ls hP hS (lv_sub hl [0, 1, 2, 3, 4, 5, 6] rfl)
  · replace hf := it_f c1 hf
    refine lv_aload_n hx hb dX11_countOf_36 rfl (lv_at hl 0 rfl) ?_
    refine r_get (k := 60) (v := .ref (ea E 37)) C hP oM_0 rfl iX11 (by decide) wm_t1077 rfl rfl dX11_countOf_37 ?_
    refine lv_iload hx hb dX11_countOf_40 (lv_at hl 6 rfl) ?_
    have h3 := (rdK_e hf).1
    refine r_ald C hP aM_37 h3 dX11_countOf_42 ?_
    refine lv_topi (fun v2 ev2 => ?_)
    replace hf := rdK_n ev2 hf
    refine lv_iload_n hx hb dX11_countOf_43 rfl (lv_at hl 2 rfl) ?_
    refine lv_icmp_ne (tgt := 67) hx hb dX11_countOf_44 (by decide) (fun c4 => ?_) (fun c4 => ?_)
    · replace hf := it_f c4 hf
      exact b_fX11_countOf_67 σ C rec6 hr6 x1 x2 x3 x4 x5 x6 hf H locs ls hP hS (lv_sub hl [0, 1, 2, 3, 4, 5, 6] rfl)
    · replace hf := it_t c4 hf
      exact b_fX11_countOf_47 σ C rec6 hr6 x1 x2 x3 x4 x5 x6 hf H locs ls hP hS (lv_sub hl [0, 1, 2, 3, 4, 5, 6] rfl)
def fX11_countOf_6B (σ : St) (rec6 : Int32 → Int32 → Int32 → Int32 → Int32 → Int32 → Option Int32) (x1 : Int32) (x2 : Int32) (x3 : Int32) (x4 : Int32) (x5 : Int32) (x6 : Int32) : Option Int32 :=
(if (σ 0 58) ≤ x6 then
some x5
else
(if x1 = (-1) then
fX11_countOf_31 σ rec6 x1 x2 x3 x4 x5 x6
else
(rdK 200 (σ 36) x6 fun v3 =>
(if v3 = x1 then
fX11_countOf_31 σ rec6 x1 x2 x3 x4 x5 x6
else
fX11_countOf_67 σ rec6 x1 x2 x3 x4 x5 x6))))
set_option maxHeartbeats 4000000 in
theorem b_fX11_countOf_6B {E : Ev} {l : Launch} {p : Program} {e : Env} {s : State} {m : MethodId} {args : Array Value} {below : List Frame} {meth : Method} {c : Code} (σ : St) (C : CX false E RX11 cX11_countOf 8 (some .int) p s m args meth c) {rr : Int32} (rec6 : Int32 → Int32 → Int32 → Int32 → Int32 → Int32 → Option Int32) (hr6 : ∀  (x1 : Int32) (x2 : Int32) (x3 : Int32) (x4 : Int32) (x5 : Int32) (x6 : Int32), rec6 x1 x2 x3 x4 x5 x6 = some rr → GW false l (rmD 1) E 8 p e s m args below meth c (MQ below (QI false E rr σ s.heap.size) args s 0 0 (aW false E s.heap.size)) σ 6 [(0, .ref (ea E 0)), (1, .int x1), (2, .int x2), (3, .int x3), (4, .int x4), (5, .int x5), (6, .int x6)] []) : ∀  (x1 : Int32) (x2 : Int32) (x3 : Int32) (x4 : Int32) (x5 : Int32) (x6 : Int32), fX11_countOf_6B σ rec6 x1 x2 x3 x4 x5 x6 = some rr → GW false l (rmD 1) E 8 p e s m args below meth c (MQ below (QI false E rr σ s.heap.size) args s 0 0 (aW false E s.heap.size)) σ 6 [(0, .ref (ea E 0)), (1, .int x1), (2, .int x2), (3, .int x3), (4, .int x4), (5, .int x5), (6, .int x6)] [] := by
  intro x1 x2 x3 x4 x5 x6 hf H locs ls hP hS hl
  obtain ⟨hx, hb, hr, hml, hown, hts, hlocks, hK, hX, hj⟩ := id C
  unfold fX11_countOf_6B at hf
  refine lv_iload hx hb dX11_countOf_6 (lv_at hl 6 rfl) ?_
  refine lv_aload_n hx hb dX11_countOf_8 rfl (lv_at hl 0 rfl) ?_
  refine r_get (k := 58) (v := .int (σ 0 58)) C hP oM_0 rfl iX11 (by decide) wm_t1075 rfl rfl dX11_countOf_9 ?_
  refine lv_icmp_ge (tgt := 102) hx hb dX11_countOf_12 (by decide) (fun c1 => ?_) (fun c1 => ?_)
  · replace hf := it_t c1 hf
    refine lv_iload hx hb dX11_countOf_102 (lv_at hl 5 rfl) ?_
    cases hf
    exact r_iret C hP hS dX11_countOf_104
  · replace hf := it_f c1 hf
    refine lv_iload_n hx hb dX11_countOf_15 rfl (lv_at hl 1 rfl) ?_
    refine lv_iconst (v := (-1)) hx hb dX11_countOf_16 (by decide) ?_
    refine lv_icmp_eq (tgt := 31) hx hb dX11_countOf_17 (by decide) (fun c2 => ?_) (fun c2 => ?_)
    · replace hf := it_t c2 hf
      exact b_fX11_countOf_31 σ C rec6 hr6 x1 x2 x3 x4 x5 x6 hf H locs ls hP hS (lv_sub hl [0, 1, 2, 3, 4, 5, 6] rfl)
    · replace hf := it_f c2 hf
      refine lv_aload_n hx hb dX11_countOf_20 rfl (lv_at hl 0 rfl) ?_
      refine r_get (k := 59) (v := .ref (ea E 36)) C hP oM_0 rfl iX11 (by decide) wm_t1076 rfl rfl dX11_countOf_21 ?_
      refine lv_iload hx hb dX11_countOf_24 (lv_at hl 6 rfl) ?_
      have h4 := (rdK_e hf).1
      refine r_ald C hP aM_36 h4 dX11_countOf_26 ?_
      refine lv_topi (fun v3 ev3 => ?_)
      replace hf := rdK_n ev3 hf
      refine lv_iload_n hx hb dX11_countOf_27 rfl (lv_at hl 1 rfl) ?_
      refine lv_icmp_ne (tgt := 67) hx hb dX11_countOf_28 (by decide) (fun c5 => ?_) (fun c5 => ?_)
      · replace hf := it_f c5 hf
        exact b_fX11_countOf_67 σ C rec6 hr6 x1 x2 x3 x4 x5 x6 hf H locs ls hP hS (lv_sub hl [0, 1, 2, 3, 4, 5, 6] rfl)
      · replace hf := it_t c5 hf
        exact b_fX11_countOf_31 σ C rec6 hr6 x1 x2 x3 x4 x5 x6 hf H locs ls hP hS (lv_sub hl [0, 1, 2, 3, 4, 5, 6] rfl)
def fX11_countOf_6 (σ : St) : Nat → Int32 → Int32 → Int32 → Int32 → Int32 → Int32 → Option Int32
  | 0 => fun _ _ _ _ _ _ => none
  | n + 1 => fun x1 x2 x3 x4 x5 x6 => fX11_countOf_6B σ (fX11_countOf_6 σ n) x1 x2 x3 x4 x5 x6
theorem b_fX11_countOf_6 {E : Ev} {l : Launch} {p : Program} {e : Env} {s : State} {m : MethodId} {args : Array Value} {below : List Frame} {meth : Method} {c : Code} (σ : St) (C : CX false E RX11 cX11_countOf 8 (some .int) p s m args meth c) {rr : Int32} : ∀ (n : Nat) (x1 : Int32) (x2 : Int32) (x3 : Int32) (x4 : Int32) (x5 : Int32) (x6 : Int32), fX11_countOf_6 σ n x1 x2 x3 x4 x5 x6 = some rr → GW false l (rmD 1) E 8 p e s m args below meth c (MQ below (QI false E rr σ s.heap.size) args s 0 0 (aW false E s.heap.size)) σ 6 [(0, .ref (ea E 0)), (1, .int x1), (2, .int x2), (3, .int x3), (4, .int x4), (5, .int x5), (6, .int x6)] [] := by
  intro n
  induction n with
  | zero => intro x1 x2 x3 x4 x5 x6 hf; have hf : (none : Option _) = some _ := hf; cases hf
  | succ n ih => intro x1 x2 x3 x4 x5 x6 hf; exact b_fX11_countOf_6B σ C (fX11_countOf_6 σ n) ih x1 x2 x3 x4 x5 x6 hf
def fX11_countOf (σ : St) (a0 : Int32) (a1 : Int32) (a2 : Int32) (a3 : Int32) : Option Int32 :=
fX11_countOf_6 σ FU a0 a1 a2 a3 0 0
set_option maxHeartbeats 4000000 in
theorem c_fX11_countOf {E : Ev} {l : Launch} (hj : jW false E) (σ : St) (sz : Nat) (a0 : Int32) (a1 : Int32) (a2 : Int32) (a3 : Int32) {rr : Int32} (hf : fX11_countOf σ a0 a1 a2 a3 = some rr) : Met l yX11_countOf (Cond.code yX11_countOf cX11_countOf 8 (some .int) :: gT) (rmD 1) (va_Pc [.ref (ea E 0), .int a0, .int a1, .int a2, .int a3] (preW false E σ sz)) (QI false E rr σ sz) 0 0 (aW false E sz) := by
  refine r_entry (QI false E rr σ) hj (by decide) [.ref (ea E 0), .int a0, .int a1, .int a2, .int a3] (Nat.le_of_ble_eq_true rfl) (fun p e s m args below meth c C => ?_)
  intro H locs ls hP hS hl
  have hl : lv_has ls 8 [(0, .ref (ea E 0)), (1, .int a0), (2, .int a1), (3, .int a2), (4, .int a3)] := hl
  obtain ⟨hx, hb, hr, hml, hown, hts, hlocks, hK, hX, hj⟩ := id C
  unfold fX11_countOf at hf
  refine lv_iconst (v := 0) hx hb dX11_countOf_0 (by decide) ?_
  refine lv_istore (lv' := [(5, .int 0), (0, .ref (ea E 0)), (1, .int a0), (2, .int a1), (3, .int a2), (4, .int a3)]) hx hb dX11_countOf_1 hl (by decide) rfl (fun ls hl => ?_)
  refine lv_iconst (v := 0) hx hb dX11_countOf_3 (by decide) ?_
  refine lv_istore (lv' := [(6, .int 0), (5, .int 0), (0, .ref (ea E 0)), (1, .int a0), (2, .int a1), (3, .int a2), (4, .int a3)]) hx hb dX11_countOf_4 hl (by decide) rfl (fun ls hl => ?_)
  exact b_fX11_countOf_6 σ C FU a0 a1 a2 a3 0 0 hf H locs ls hP hS (lv_sub hl [2, 3, 4, 5, 6, 1, 0] rfl)
