def fX11_takesText_171B (rec171 : St → Int32 → Int32 → Int32 → Option (Int32 × St)) (σ : St) (x1 : Int32) (x2 : Int32) (x3 : Int32) : Option (Int32 × St) :=
(if (σ 0 33) ≤ x3 then
(wrK 3 σ 15 x1 x2 fun σ2 =>
some (x2, σ2))
else
(rdK 1800 (σ 21) (1200 + x3) fun v4 =>
(wrK 1800 σ 21 ((600 * x1) + x3) v4 fun σ6 =>
(rdK 1800 (σ6 22) (1200 + x3) fun v8 =>
(wrK 1800 σ6 22 ((600 * x1) + x3) v8 fun σ10 =>
rec171 σ10 x1 x2 (x3 + 1))))))
set_option maxHeartbeats 4000000 in
theorem b_fX11_takesText_171B {E : Ev} {l : Launch} {p : Program} {e : Env} {s : State} {m : MethodId} {args : Array Value} {below : List Frame} {meth : Method} {c : Code} (C : CX false E RX11 cX11_takesText 4 (some .int) p s m args meth c) {rr : Int32} {sr : St} (rec171 : St → Int32 → Int32 → Int32 → Option (Int32 × St)) (hr171 : ∀ (σ : St) (x1 : Int32) (x2 : Int32) (x3 : Int32), rec171 σ x1 x2 x3 = some (rr, sr) → GW false l (rmD 11) E 4 p e s m args below meth c (MQ below (QI false E rr sr s.heap.size) args s 0 0 (aW false E s.heap.size)) σ 171 [(0, .ref (ea E 0)), (1, .int x1), (2, .int x2), (3, .int x3)] []) : ∀ (σ : St) (x1 : Int32) (x2 : Int32) (x3 : Int32), fX11_takesText_171B rec171 σ x1 x2 x3 = some (rr, sr) → GW false l (rmD 11) E 4 p e s m args below meth c (MQ below (QI false E rr sr s.heap.size) args s 0 0 (aW false E s.heap.size)) σ 171 [(0, .ref (ea E 0)), (1, .int x1), (2, .int x2), (3, .int x3)] [] := by
  intro σ x1 x2 x3 hf H locs ls hP hS hl
  obtain ⟨hx, hb, hr, hml, hown, hts, hlocks, hK, hX, hj⟩ := id C
  unfold fX11_takesText_171B at hf
  refine lv_iload_n hx hb dX11_takesText_171 rfl (lv_at hl 3 rfl) ?_
  refine lv_aload_n hx hb dX11_takesText_172 rfl (lv_at hl 0 rfl) ?_
  refine r_get (k := 33) (v := .int (σ 0 33)) C hP oM_0 rfl iX11 (by decide) wm_t1050 rfl rfl dX11_takesText_173 ?_
  refine lv_icmp_ge (tgt := 229) hx hb dX11_takesText_176 (by decide) (fun c1 => ?_) (fun c1 => ?_)
  · replace hf := it_t c1 hf
    refine lv_aload_n hx hb dX11_takesText_229 rfl (lv_at hl 0 rfl) ?_
    refine r_get (k := 24) (v := .ref (ea E 15)) C hP oM_0 rfl iX11 (by decide) wm_t1041 rfl rfl dX11_takesText_230 ?_
    refine lv_iload_n hx hb dX11_takesText_233 rfl (lv_at hl 1 rfl) ?_
    refine lv_iload_n hx hb dX11_takesText_234 rfl (lv_at hl 2 rfl) ?_
    obtain ⟨h3, σ2, eσ2, hf⟩ := wrK_e hf
    refine r_ast C hP hS aM_15 h3 dX11_takesText_235 (fun H locs hP hS => ?_)
    rw [← eσ2] at hP
    refine lv_iload_n hx hb dX11_takesText_236 rfl (lv_at hl 2 rfl) ?_
    cases hf
    exact r_iret C hP hS dX11_takesText_237
  · replace hf := it_f c1 hf
    refine lv_aload_n hx hb dX11_takesText_179 rfl (lv_at hl 0 rfl) ?_
    refine r_get (k := 30) (v := .ref (ea E 21)) C hP oM_0 rfl iX11 (by decide) wm_t1047 rfl rfl dX11_takesText_180 ?_
    refine lv_sipush (v := 600) hx hb dX11_takesText_183 (by decide) ?_
    refine lv_iload_n hx hb dX11_takesText_186 rfl (lv_at hl 1 rfl) ?_
    refine lv_imul hx hb dX11_takesText_187 ?_
    refine lv_iload_n hx hb dX11_takesText_188 rfl (lv_at hl 3 rfl) ?_
    refine lv_iadd hx hb dX11_takesText_189 ?_
    refine lv_aload_n hx hb dX11_takesText_190 rfl (lv_at hl 0 rfl) ?_
    refine r_get (k := 30) (v := .ref (ea E 21)) C hP oM_0 rfl iX11 (by decide) wm_t1047 rfl rfl dX11_takesText_191 ?_
    refine lv_sipush (v := 1200) hx hb dX11_takesText_194 (by decide) ?_
    refine lv_iload_n hx hb dX11_takesText_197 rfl (lv_at hl 3 rfl) ?_
    refine lv_iadd hx hb dX11_takesText_198 ?_
    have h5 := (rdK_e hf).1
    refine r_ald C hP aM_21 h5 dX11_takesText_199 ?_
    refine lv_topi (fun v4 ev4 => ?_)
    replace hf := rdK_n ev4 hf
    obtain ⟨h7, σ6, eσ6, hf⟩ := wrK_e hf
    refine r_ast C hP hS aM_21 h7 dX11_takesText_200 (fun H locs hP hS => ?_)
    rw [← eσ6] at hP
    refine lv_aload_n hx hb dX11_takesText_201 rfl (lv_at hl 0 rfl) ?_
    refine r_get (k := 31) (v := .ref (ea E 22)) C hP oM_0 rfl iX11 (by decide) wm_t1048 rfl rfl dX11_takesText_202 ?_
    refine lv_sipush (v := 600) hx hb dX11_takesText_205 (by decide) ?_
    refine lv_iload_n hx hb dX11_takesText_208 rfl (lv_at hl 1 rfl) ?_
    refine lv_imul hx hb dX11_takesText_209 ?_
    refine lv_iload_n hx hb dX11_takesText_210 rfl (lv_at hl 3 rfl) ?_
    refine lv_iadd hx hb dX11_takesText_211 ?_
    refine lv_aload_n hx hb dX11_takesText_212 rfl (lv_at hl 0 rfl) ?_
    refine r_get (k := 31) (v := .ref (ea E 22)) C hP oM_0 rfl iX11 (by decide) wm_t1048 rfl rfl dX11_takesText_213 ?_
    refine lv_sipush (v := 1200) hx hb dX11_takesText_216 (by decide) ?_
    refine lv_iload_n hx hb dX11_takesText_219 rfl (lv_at hl 3 rfl) ?_
    refine lv_iadd hx hb dX11_takesText_220 ?_
    have h9 := (rdK_e hf).1
    refine r_ald C hP aM_22 h9 dX11_takesText_221 ?_
    refine lv_topi (fun v8 ev8 => ?_)
    replace hf := rdK_n ev8 hf
    obtain ⟨h11, σ10, eσ10, hf⟩ := wrK_e hf
    refine r_ast C hP hS aM_22 h11 dX11_takesText_222 (fun H locs hP hS => ?_)
    rw [← eσ10] at hP
    refine lv_iinc (v := (x3 + 1)) (lv' := [(3, .int (x3 + 1)), (0, .ref (ea E 0)), (1, .int x1), (2, .int x2)]) hx hb dX11_takesText_223 hl (k := 3) rfl rfl (by decide) rfl (fun ls hl => ?_)
    refine lv_goto (tgt := 171) hx hb dX11_takesText_226 (by decide) ?_
    exact hr171 σ10 x1 x2 (x3 + 1) hf H locs ls hP hS (lv_sub hl [1, 2, 3, 0] rfl)
def fX11_takesText_171 : Nat → St → Int32 → Int32 → Int32 → Option (Int32 × St)
  | 0 => fun _ _ _ _ => none
  | n + 1 => fun σ x1 x2 x3 => fX11_takesText_171B (fX11_takesText_171 n) σ x1 x2 x3
theorem b_fX11_takesText_171 {E : Ev} {l : Launch} {p : Program} {e : Env} {s : State} {m : MethodId} {args : Array Value} {below : List Frame} {meth : Method} {c : Code} (C : CX false E RX11 cX11_takesText 4 (some .int) p s m args meth c) {rr : Int32} {sr : St} : ∀ (n : Nat) (σ : St) (x1 : Int32) (x2 : Int32) (x3 : Int32), fX11_takesText_171 n σ x1 x2 x3 = some (rr, sr) → GW false l (rmD 11) E 4 p e s m args below meth c (MQ below (QI false E rr sr s.heap.size) args s 0 0 (aW false E s.heap.size)) σ 171 [(0, .ref (ea E 0)), (1, .int x1), (2, .int x2), (3, .int x3)] [] := by
  intro n
  induction n with
  | zero => intro σ x1 x2 x3 hf; have hf : (none : Option _) = some _ := hf; cases hf
  | succ n ih => intro σ x1 x2 x3 hf; exact b_fX11_takesText_171B C (fX11_takesText_171 n) ih σ x1 x2 x3 hf
def fX11_takesText_58B (rec58 : St → Int32 → Int32 → Int32 → Option (Int32 × St)) (σ : St) (x1 : Int32) (x2 : Int32) (x3 : Int32) : Option (Int32 × St) :=
(if x2 ≤ x3 then
fX11_takesText_171 FU σ x1 x2 0
else
(rdK 48 (σ 16) (32 + x3) fun v2 =>
(wrK 48 σ 16 ((16 * x1) + x3) v2 fun σ4 =>
(rdK 48 (σ4 17) (32 + x3) fun v6 =>
(wrK 48 σ4 17 ((16 * x1) + x3) v6 fun σ8 =>
(rdK 48 (σ8 18) (32 + x3) fun v10 =>
(wrK 48 σ8 18 ((16 * x1) + x3) v10 fun σ12 =>
(rdK 48 (σ12 19) (32 + x3) fun v14 =>
(wrK 48 σ12 19 ((16 * x1) + x3) v14 fun σ16 =>
(rdK 48 (σ16 20) (32 + x3) fun v18 =>
(wrK 48 σ16 20 ((16 * x1) + x3) v18 fun σ20 =>
rec58 σ20 x1 x2 (x3 + 1))))))))))))
set_option maxHeartbeats 4000000 in
theorem b_fX11_takesText_58B {E : Ev} {l : Launch} {p : Program} {e : Env} {s : State} {m : MethodId} {args : Array Value} {below : List Frame} {meth : Method} {c : Code} (C : CX false E RX11 cX11_takesText 4 (some .int) p s m args meth c) {rr : Int32} {sr : St} (rec58 : St → Int32 → Int32 → Int32 → Option (Int32 × St)) (hr58 : ∀ (σ : St) (x1 : Int32) (x2 : Int32) (x3 : Int32), rec58 σ x1 x2 x3 = some (rr, sr) → GW false l (rmD 11) E 4 p e s m args below meth c (MQ below (QI false E rr sr s.heap.size) args s 0 0 (aW false E s.heap.size)) σ 58 [(0, .ref (ea E 0)), (1, .int x1), (2, .int x2), (3, .int x3)] []) : ∀ (σ : St) (x1 : Int32) (x2 : Int32) (x3 : Int32), fX11_takesText_58B rec58 σ x1 x2 x3 = some (rr, sr) → GW false l (rmD 11) E 4 p e s m args below meth c (MQ below (QI false E rr sr s.heap.size) args s 0 0 (aW false E s.heap.size)) σ 58 [(0, .ref (ea E 0)), (1, .int x1), (2, .int x2), (3, .int x3)] [] := by
  intro σ x1 x2 x3 hf H locs ls hP hS hl
  obtain ⟨hx, hb, hr, hml, hown, hts, hlocks, hK, hX, hj⟩ := id C
  unfold fX11_takesText_58B at hf
  refine lv_iload_n hx hb dX11_takesText_58 rfl (lv_at hl 3 rfl) ?_
  refine lv_iload_n hx hb dX11_takesText_59 rfl (lv_at hl 2 rfl) ?_
  refine lv_icmp_ge (tgt := 169) hx hb dX11_takesText_60 (by decide) (fun c1 => ?_) (fun c1 => ?_)
  · replace hf := it_t c1 hf
    refine lv_iconst (v := 0) hx hb dX11_takesText_169 (by decide) ?_
    refine lv_istore_n (lv' := [(3, .int 0), (0, .ref (ea E 0)), (1, .int x1), (2, .int x2)]) hx hb dX11_takesText_170 rfl hl (by decide) rfl (fun ls hl => ?_)
    exact b_fX11_takesText_171 C FU σ x1 x2 0 hf H locs ls hP hS (lv_sub hl [1, 2, 3, 0] rfl)
  · replace hf := it_f c1 hf
    refine lv_aload_n hx hb dX11_takesText_63 rfl (lv_at hl 0 rfl) ?_
    refine r_get (k := 25) (v := .ref (ea E 16)) C hP oM_0 rfl iX11 (by decide) wm_t1042 rfl rfl dX11_takesText_64 ?_
    refine lv_bipush (v := 16) hx hb dX11_takesText_67 (by decide) ?_
    refine lv_iload_n hx hb dX11_takesText_69 rfl (lv_at hl 1 rfl) ?_
    refine lv_imul hx hb dX11_takesText_70 ?_
    refine lv_iload_n hx hb dX11_takesText_71 rfl (lv_at hl 3 rfl) ?_
    refine lv_iadd hx hb dX11_takesText_72 ?_
    refine lv_aload_n hx hb dX11_takesText_73 rfl (lv_at hl 0 rfl) ?_
    refine r_get (k := 25) (v := .ref (ea E 16)) C hP oM_0 rfl iX11 (by decide) wm_t1042 rfl rfl dX11_takesText_74 ?_
    refine lv_bipush (v := 32) hx hb dX11_takesText_77 (by decide) ?_
    refine lv_iload_n hx hb dX11_takesText_79 rfl (lv_at hl 3 rfl) ?_
    refine lv_iadd hx hb dX11_takesText_80 ?_
    have h3 := (rdK_e hf).1
    refine r_ald C hP aM_16 h3 dX11_takesText_81 ?_
    refine lv_topi (fun v2 ev2 => ?_)
    replace hf := rdK_n ev2 hf
    obtain ⟨h5, σ4, eσ4, hf⟩ := wrK_e hf
    refine r_ast C hP hS aM_16 h5 dX11_takesText_82 (fun H locs hP hS => ?_)
    rw [← eσ4] at hP
    refine lv_aload_n hx hb dX11_takesText_83 rfl (lv_at hl 0 rfl) ?_
    refine r_get (k := 26) (v := .ref (ea E 17)) C hP oM_0 rfl iX11 (by decide) wm_t1043 rfl rfl dX11_takesText_84 ?_
    refine lv_bipush (v := 16) hx hb dX11_takesText_87 (by decide) ?_
    refine lv_iload_n hx hb dX11_takesText_89 rfl (lv_at hl 1 rfl) ?_
    refine lv_imul hx hb dX11_takesText_90 ?_
    refine lv_iload_n hx hb dX11_takesText_91 rfl (lv_at hl 3 rfl) ?_
    refine lv_iadd hx hb dX11_takesText_92 ?_
    refine lv_aload_n hx hb dX11_takesText_93 rfl (lv_at hl 0 rfl) ?_
    refine r_get (k := 26) (v := .ref (ea E 17)) C hP oM_0 rfl iX11 (by decide) wm_t1043 rfl rfl dX11_takesText_94 ?_
    refine lv_bipush (v := 32) hx hb dX11_takesText_97 (by decide) ?_
    refine lv_iload_n hx hb dX11_takesText_99 rfl (lv_at hl 3 rfl) ?_
    refine lv_iadd hx hb dX11_takesText_100 ?_
    have h7 := (rdK_e hf).1
    refine r_ald C hP aM_17 h7 dX11_takesText_101 ?_
    refine lv_topi (fun v6 ev6 => ?_)
    replace hf := rdK_n ev6 hf
    obtain ⟨h9, σ8, eσ8, hf⟩ := wrK_e hf
    refine r_ast C hP hS aM_17 h9 dX11_takesText_102 (fun H locs hP hS => ?_)
    rw [← eσ8] at hP
    refine lv_aload_n hx hb dX11_takesText_103 rfl (lv_at hl 0 rfl) ?_
    refine r_get (k := 27) (v := .ref (ea E 18)) C hP oM_0 rfl iX11 (by decide) wm_t1044 rfl rfl dX11_takesText_104 ?_
    refine lv_bipush (v := 16) hx hb dX11_takesText_107 (by decide) ?_
    refine lv_iload_n hx hb dX11_takesText_109 rfl (lv_at hl 1 rfl) ?_
    refine lv_imul hx hb dX11_takesText_110 ?_
    refine lv_iload_n hx hb dX11_takesText_111 rfl (lv_at hl 3 rfl) ?_
    refine lv_iadd hx hb dX11_takesText_112 ?_
    refine lv_aload_n hx hb dX11_takesText_113 rfl (lv_at hl 0 rfl) ?_
    refine r_get (k := 27) (v := .ref (ea E 18)) C hP oM_0 rfl iX11 (by decide) wm_t1044 rfl rfl dX11_takesText_114 ?_
    refine lv_bipush (v := 32) hx hb dX11_takesText_117 (by decide) ?_
    refine lv_iload_n hx hb dX11_takesText_119 rfl (lv_at hl 3 rfl) ?_
    refine lv_iadd hx hb dX11_takesText_120 ?_
    have h11 := (rdK_e hf).1
    refine r_ald C hP aM_18 h11 dX11_takesText_121 ?_
    refine lv_topi (fun v10 ev10 => ?_)
    replace hf := rdK_n ev10 hf
    obtain ⟨h13, σ12, eσ12, hf⟩ := wrK_e hf
    refine r_ast C hP hS aM_18 h13 dX11_takesText_122 (fun H locs hP hS => ?_)
    rw [← eσ12] at hP
    refine lv_aload_n hx hb dX11_takesText_123 rfl (lv_at hl 0 rfl) ?_
    refine r_get (k := 28) (v := .ref (ea E 19)) C hP oM_0 rfl iX11 (by decide) wm_t1045 rfl rfl dX11_takesText_124 ?_
    refine lv_bipush (v := 16) hx hb dX11_takesText_127 (by decide) ?_
    refine lv_iload_n hx hb dX11_takesText_129 rfl (lv_at hl 1 rfl) ?_
    refine lv_imul hx hb dX11_takesText_130 ?_
    refine lv_iload_n hx hb dX11_takesText_131 rfl (lv_at hl 3 rfl) ?_
    refine lv_iadd hx hb dX11_takesText_132 ?_
    refine lv_aload_n hx hb dX11_takesText_133 rfl (lv_at hl 0 rfl) ?_
    refine r_get (k := 28) (v := .ref (ea E 19)) C hP oM_0 rfl iX11 (by decide) wm_t1045 rfl rfl dX11_takesText_134 ?_
    refine lv_bipush (v := 32) hx hb dX11_takesText_137 (by decide) ?_
    refine lv_iload_n hx hb dX11_takesText_139 rfl (lv_at hl 3 rfl) ?_
    refine lv_iadd hx hb dX11_takesText_140 ?_
    have h15 := (rdK_e hf).1
    refine r_ald C hP aM_19 h15 dX11_takesText_141 ?_
    refine lv_topi (fun v14 ev14 => ?_)
    replace hf := rdK_n ev14 hf
    obtain ⟨h17, σ16, eσ16, hf⟩ := wrK_e hf
    refine r_ast C hP hS aM_19 h17 dX11_takesText_142 (fun H locs hP hS => ?_)
    rw [← eσ16] at hP
    refine lv_aload_n hx hb dX11_takesText_143 rfl (lv_at hl 0 rfl) ?_
    refine r_get (k := 29) (v := .ref (ea E 20)) C hP oM_0 rfl iX11 (by decide) wm_t1046 rfl rfl dX11_takesText_144 ?_
    refine lv_bipush (v := 16) hx hb dX11_takesText_147 (by decide) ?_
    refine lv_iload_n hx hb dX11_takesText_149 rfl (lv_at hl 1 rfl) ?_
    refine lv_imul hx hb dX11_takesText_150 ?_
    refine lv_iload_n hx hb dX11_takesText_151 rfl (lv_at hl 3 rfl) ?_
    refine lv_iadd hx hb dX11_takesText_152 ?_
    refine lv_aload_n hx hb dX11_takesText_153 rfl (lv_at hl 0 rfl) ?_
    refine r_get (k := 29) (v := .ref (ea E 20)) C hP oM_0 rfl iX11 (by decide) wm_t1046 rfl rfl dX11_takesText_154 ?_
    refine lv_bipush (v := 32) hx hb dX11_takesText_157 (by decide) ?_
    refine lv_iload_n hx hb dX11_takesText_159 rfl (lv_at hl 3 rfl) ?_
    refine lv_iadd hx hb dX11_takesText_160 ?_
    have h19 := (rdK_e hf).1
    refine r_ald C hP aM_20 h19 dX11_takesText_161 ?_
    refine lv_topi (fun v18 ev18 => ?_)
    replace hf := rdK_n ev18 hf
    obtain ⟨h21, σ20, eσ20, hf⟩ := wrK_e hf
    refine r_ast C hP hS aM_20 h21 dX11_takesText_162 (fun H locs hP hS => ?_)
    rw [← eσ20] at hP
    refine lv_iinc (v := (x3 + 1)) (lv' := [(3, .int (x3 + 1)), (0, .ref (ea E 0)), (1, .int x1), (2, .int x2)]) hx hb dX11_takesText_163 hl (k := 3) rfl rfl (by decide) rfl (fun ls hl => ?_)
    refine lv_goto (tgt := 58) hx hb dX11_takesText_166 (by decide) ?_
    exact hr58 σ20 x1 x2 (x3 + 1) hf H locs ls hP hS (lv_sub hl [1, 2, 3, 0] rfl)
def fX11_takesText_58 : Nat → St → Int32 → Int32 → Int32 → Option (Int32 × St)
  | 0 => fun _ _ _ _ => none
  | n + 1 => fun σ x1 x2 x3 => fX11_takesText_58B (fX11_takesText_58 n) σ x1 x2 x3
theorem b_fX11_takesText_58 {E : Ev} {l : Launch} {p : Program} {e : Env} {s : State} {m : MethodId} {args : Array Value} {below : List Frame} {meth : Method} {c : Code} (C : CX false E RX11 cX11_takesText 4 (some .int) p s m args meth c) {rr : Int32} {sr : St} : ∀ (n : Nat) (σ : St) (x1 : Int32) (x2 : Int32) (x3 : Int32), fX11_takesText_58 n σ x1 x2 x3 = some (rr, sr) → GW false l (rmD 11) E 4 p e s m args below meth c (MQ below (QI false E rr sr s.heap.size) args s 0 0 (aW false E s.heap.size)) σ 58 [(0, .ref (ea E 0)), (1, .int x1), (2, .int x2), (3, .int x3)] [] := by
  intro n
  induction n with
  | zero => intro σ x1 x2 x3 hf; have hf : (none : Option _) = some _ := hf; cases hf
  | succ n ih => intro σ x1 x2 x3 hf; exact b_fX11_takesText_58B C (fX11_takesText_58 n) ih σ x1 x2 x3 hf
def fX11_takesText_20 (σ : St) (x1 : Int32) (y0 : Int32) : Option (Int32 × St) :=
(zb y0 (
(nmS (st_put σ 0 32 y0) fun σ2 =>
(cb (fX11_readText σ2) fun r3 σ5 =>
(nmS (st_put σ5 0 18 0) fun σ6 =>
(if r3 = (-1) then
(nmS (st_put σ6 0 39 (σ6 0 37)) fun σ8 =>
(nmS (st_put σ8 0 40 (σ8 0 38)) fun σ9 =>
some ((-1), σ9)))
else
fX11_takesText_58 FU σ6 x1 r3 0))))))
set_option maxHeartbeats 4000000 in
theorem b_fX11_takesText_20 {E : Ev} {l : Launch} {p : Program} {e : Env} {s : State} {m : MethodId} {args : Array Value} {below : List Frame} {meth : Method} {c : Code} (C : CX false E RX11 cX11_takesText 4 (some .int) p s m args meth c) {rr : Int32} {sr : St} : ∀ (σ : St) (x1 : Int32) (y0 : Int32), fX11_takesText_20 σ x1 y0 = some (rr, sr) → GW false l (rmD 11) E 4 p e s m args below meth c (MQ below (QI false E rr sr s.heap.size) args s 0 0 (aW false E s.heap.size)) σ 20 [(0, .ref (ea E 0)), (1, .int x1)] [.int y0, .ref (ea E 0)] := by
  intro σ x1 y0 hf H locs ls hP hS hl
  obtain ⟨hx, hb, hr, hml, hown, hts, hlocks, hK, hX, hj⟩ := id C
  unfold fX11_takesText_20 at hf
  obtain ⟨h1, hf⟩ := zb_e hf
  refine r_put (k := 32) (x := y0) C hP hS tyX11 tyX11_ok nmX11 oM_0 rfl iX11 (by decide) wm_t1049 rfl rfl sM_0_32 (zb_nar h1) (zb_fit h1) (Nat.le_of_ble_eq_true rfl) dX11_takesText_20 (fun H locs hP hS => ?_)
  obtain ⟨σ2, eσ2, hf⟩ := nmS_e hf
  rw [← eσ2] at hP
  refine lv_aload_n hx hb dX11_takesText_23 rfl (lv_at hl 0 rfl) ?_
  obtain ⟨r3, σ5, hc4, hf⟩ := cb_e hf
  refine r_cVi (n := 0) (As := []) (rest := []) C (c_fX11_readText hj σ2 H.size hc4) oM_0 rfl gv_RX11_271 (by decide +kernel) (rmD_le (by decide) (by decide)) rfl rfl (Nat.le_of_ble_eq_true rfl) dX11_takesText_24 hP hS hl.1 (fun H locs hP hS => ?_)
  refine lv_istore_n (lv' := [(2, .int r3), (0, .ref (ea E 0)), (1, .int x1)]) hx hb dX11_takesText_27 rfl hl (by decide) rfl (fun ls hl => ?_)
  refine lv_aload_n hx hb dX11_takesText_28 rfl (lv_at hl 1 rfl) ?_
  refine lv_iconst (v := 0) hx hb dX11_takesText_29 (by decide) ?_
  refine r_put (k := 18) (x := 0) C hP hS tyX11 tyX11_ok nmX11 oM_0 rfl iX11 (by decide) wm_t1035 rfl rfl sM_0_18 rfl rfl (Nat.le_of_ble_eq_true rfl) dX11_takesText_30 (fun H locs hP hS => ?_)
  obtain ⟨σ6, eσ6, hf⟩ := nmS_e hf
  rw [← eσ6] at hP
  refine lv_iload_n hx hb dX11_takesText_33 rfl (lv_at hl 0 rfl) ?_
  refine lv_iconst (v := (-1)) hx hb dX11_takesText_34 (by decide) ?_
  refine lv_icmp_ne (tgt := 56) hx hb dX11_takesText_35 (by decide) (fun c7 => ?_) (fun c7 => ?_)
  · replace hf := it_f c7 hf
    refine lv_iconst (v := 0) hx hb dX11_takesText_56 (by decide) ?_
    refine lv_istore_n (lv' := [(3, .int 0), (2, .int r3), (0, .ref (ea E 0)), (1, .int x1)]) hx hb dX11_takesText_57 rfl hl (by decide) rfl (fun ls hl => ?_)
    exact b_fX11_takesText_58 C FU σ6 x1 r3 0 hf H locs ls hP hS (lv_sub hl [2, 3, 1, 0] rfl)
  · replace hf := it_t c7 hf
    refine lv_aload_n hx hb dX11_takesText_38 rfl (lv_at hl 1 rfl) ?_
    refine lv_aload_n hx hb dX11_takesText_39 rfl (lv_at hl 1 rfl) ?_
    refine r_get (k := 37) (v := .int (σ6 0 37)) C hP oM_0 rfl iX11 (by decide) wm_t1054 rfl rfl dX11_takesText_40 ?_
    refine r_put (k := 39) (x := (σ6 0 37)) C hP hS tyX11 tyX11_ok nmX11 oM_0 rfl iX11 (by decide) wm_t1056 rfl rfl sM_0_39 rfl rfl (Nat.le_of_ble_eq_true rfl) dX11_takesText_43 (fun H locs hP hS => ?_)
    obtain ⟨σ8, eσ8, hf⟩ := nmS_e hf
    rw [← eσ8] at hP
    refine lv_aload_n hx hb dX11_takesText_46 rfl (lv_at hl 1 rfl) ?_
    refine lv_aload_n hx hb dX11_takesText_47 rfl (lv_at hl 1 rfl) ?_
    refine r_get (k := 38) (v := .int (σ8 0 38)) C hP oM_0 rfl iX11 (by decide) wm_t1055 rfl rfl dX11_takesText_48 ?_
    refine r_put (k := 40) (x := (σ8 0 38)) C hP hS tyX11 tyX11_ok nmX11 oM_0 rfl iX11 (by decide) wm_t1057 rfl rfl sM_0_40 rfl rfl (Nat.le_of_ble_eq_true rfl) dX11_takesText_51 (fun H locs hP hS => ?_)
    obtain ⟨σ9, eσ9, hf⟩ := nmS_e hf
    rw [← eσ9] at hP
    refine lv_iconst (v := (-1)) hx hb dX11_takesText_54 (by decide) ?_
    cases hf
    exact r_iret C hP hS dX11_takesText_55
def fX11_takesText (σ : St) (a0 : Int32) : Option (Int32 × St) :=
(nmS (st_put σ 0 39 0) fun σ1 =>
(nmS (st_put σ1 0 40 (-1)) fun σ2 =>
(if a0 = 0 then
fX11_takesText_20 σ2 a0 1
else
fX11_takesText_20 σ2 a0 0)))
set_option maxHeartbeats 4000000 in
theorem c_fX11_takesText {E : Ev} {l : Launch} (hj : jW false E) (σ : St) (sz : Nat) (a0 : Int32) {rr : Int32} {sr : St} (hf : fX11_takesText σ a0 = some (rr, sr)) : Met l yX11_takesText (Cond.code yX11_takesText cX11_takesText 4 (some .int) :: gT) (rmD 11) (va_Pc [.ref (ea E 0), .int a0] (preW false E σ sz)) (QI false E rr sr sz) 0 0 (aW false E sz) := by
  refine r_entry (QI false E rr sr) hj (by decide) [.ref (ea E 0), .int a0] (Nat.le_of_ble_eq_true rfl) (fun p e s m args below meth c C => ?_)
  intro H locs ls hP hS hl
  have hl : lv_has ls 4 [(0, .ref (ea E 0)), (1, .int a0)] := hl
  obtain ⟨hx, hb, hr, hml, hown, hts, hlocks, hK, hX, hj⟩ := id C
  unfold fX11_takesText at hf
  refine lv_aload_n hx hb dX11_takesText_0 rfl (lv_at hl 0 rfl) ?_
  refine lv_iconst (v := 0) hx hb dX11_takesText_1 (by decide) ?_
  refine r_put (k := 39) (x := 0) C hP hS tyX11 tyX11_ok nmX11 oM_0 rfl iX11 (by decide) wm_t1056 rfl rfl sM_0_39 rfl rfl (Nat.le_of_ble_eq_true rfl) dX11_takesText_2 (fun H locs hP hS => ?_)
  obtain ⟨σ1, eσ1, hf⟩ := nmS_e hf
  rw [← eσ1] at hP
  refine lv_aload_n hx hb dX11_takesText_5 rfl (lv_at hl 0 rfl) ?_
  refine lv_iconst (v := (-1)) hx hb dX11_takesText_6 (by decide) ?_
  refine r_put (k := 40) (x := (-1)) C hP hS tyX11 tyX11_ok nmX11 oM_0 rfl iX11 (by decide) wm_t1057 rfl rfl sM_0_40 rfl rfl (Nat.le_of_ble_eq_true rfl) dX11_takesText_7 (fun H locs hP hS => ?_)
  obtain ⟨σ2, eσ2, hf⟩ := nmS_e hf
  rw [← eσ2] at hP
  refine lv_aload_n hx hb dX11_takesText_10 rfl (lv_at hl 0 rfl) ?_
  refine lv_iload_n hx hb dX11_takesText_11 rfl (lv_at hl 1 rfl) ?_
  refine lv_if_ne (tgt := 19) hx hb dX11_takesText_12 (by decide) (fun c3 => ?_) (fun c3 => ?_)
  · replace hf := it_f c3 hf
    refine lv_iconst (v := 0) hx hb dX11_takesText_19 (by decide) ?_
    exact b_fX11_takesText_20 C σ2 a0 0 hf H locs ls hP hS (lv_sub hl [0, 1] rfl)
  · replace hf := it_t c3 hf
    refine lv_iconst (v := 1) hx hb dX11_takesText_15 (by decide) ?_
    refine lv_goto (tgt := 20) hx hb dX11_takesText_16 (by decide) ?_
    exact b_fX11_takesText_20 C σ2 a0 1 hf H locs ls hP hS (lv_sub hl [0, 1] rfl)
def fX11_laws (σ : St) : Option (Int32 × St) :=
(nmS (st_put σ 0 0 0) fun σ1 =>
(cb (fX11_takesText σ1 0) fun r2 σ4 =>
some (r2, σ4)))
set_option maxHeartbeats 4000000 in
theorem c_fX11_laws {E : Ev} {l : Launch} (hj : jW false E) (σ : St) (sz : Nat) {rr : Int32} {sr : St} (hf : fX11_laws σ = some (rr, sr)) : Met l yX11_laws (Cond.code yX11_laws cX11_laws 1 (some .int) :: gT) (rmD 12) (va_Pc [.ref (ea E 0)] (preW false E σ sz)) (QI false E rr sr sz) 0 0 (aW false E sz) := by
  refine r_entry (QI false E rr sr) hj (by decide) [.ref (ea E 0)] (Nat.le_of_ble_eq_true rfl) (fun p e s m args below meth c C => ?_)
  intro H locs ls hP hS hl
  have hl : lv_has ls 1 [(0, .ref (ea E 0))] := hl
  obtain ⟨hx, hb, hr, hml, hown, hts, hlocks, hK, hX, hj⟩ := id C
  unfold fX11_laws at hf
  refine lv_aload_n hx hb dX11_laws_0 rfl (lv_at hl 0 rfl) ?_
  refine lv_iconst (v := 0) hx hb dX11_laws_1 (by decide) ?_
  refine r_put (k := 0) (x := 0) C hP hS tyX11 tyX11_ok nmX11 oM_0 rfl iX11 (by decide) wm_t1017 rfl rfl sM_0_0 rfl rfl (Nat.le_of_ble_eq_true rfl) dX11_laws_2 (fun H locs hP hS => ?_)
  obtain ⟨σ1, eσ1, hf⟩ := nmS_e hf
  rw [← eσ1] at hP
  refine lv_aload_n hx hb dX11_laws_5 rfl (lv_at hl 0 rfl) ?_
  refine lv_iconst (v := 0) hx hb dX11_laws_6 (by decide) ?_
  obtain ⟨r2, σ4, hc3, hf⟩ := cb_e hf
  refine r_cVi (n := 1) (As := [.int 0]) (rest := []) C (c_fX11_takesText hj σ1 H.size 0 hc3) oM_0 rfl gv_RX11_274 (by decide +kernel) (rmD_le (by decide) (by decide)) rfl rfl (Nat.le_of_ble_eq_true rfl) dX11_laws_7 hP hS hl.1 (fun H locs hP hS => ?_)
  cases hf
  exact r_iret C hP hS dX11_laws_10
def fX11_code (σ : St) : Option (Int32 × St) :=
(nmS (st_put σ 0 0 0) fun σ1 =>
(cb (fX11_takesText σ1 1) fun r2 σ4 =>
some (r2, σ4)))
set_option maxHeartbeats 4000000 in
theorem c_fX11_code {E : Ev} {l : Launch} (hj : jW false E) (σ : St) (sz : Nat) {rr : Int32} {sr : St} (hf : fX11_code σ = some (rr, sr)) : Met l yX11_code (Cond.code yX11_code cX11_code 1 (some .int) :: gT) (rmD 12) (va_Pc [.ref (ea E 0)] (preW false E σ sz)) (QI false E rr sr sz) 0 0 (aW false E sz) := by
  refine r_entry (QI false E rr sr) hj (by decide) [.ref (ea E 0)] (Nat.le_of_ble_eq_true rfl) (fun p e s m args below meth c C => ?_)
  intro H locs ls hP hS hl
  have hl : lv_has ls 1 [(0, .ref (ea E 0))] := hl
  obtain ⟨hx, hb, hr, hml, hown, hts, hlocks, hK, hX, hj⟩ := id C
  unfold fX11_code at hf
  refine lv_aload_n hx hb dX11_code_0 rfl (lv_at hl 0 rfl) ?_
  refine lv_iconst (v := 0) hx hb dX11_code_1 (by decide) ?_
  refine r_put (k := 0) (x := 0) C hP hS tyX11 tyX11_ok nmX11 oM_0 rfl iX11 (by decide) wm_t1017 rfl rfl sM_0_0 rfl rfl (Nat.le_of_ble_eq_true rfl) dX11_code_2 (fun H locs hP hS => ?_)
  obtain ⟨σ1, eσ1, hf⟩ := nmS_e hf
  rw [← eσ1] at hP
  refine lv_aload_n hx hb dX11_code_5 rfl (lv_at hl 0 rfl) ?_
  refine lv_iconst (v := 1) hx hb dX11_code_6 (by decide) ?_
  obtain ⟨r2, σ4, hc3, hf⟩ := cb_e hf
  refine r_cVi (n := 1) (As := [.int 1]) (rest := []) C (c_fX11_takesText hj σ1 H.size 1 hc3) oM_0 rfl gv_RX11_274 (by decide +kernel) (rmD_le (by decide) (by decide)) rfl rfl (Nat.le_of_ble_eq_true rfl) dX11_code_7 hP hS hl.1 (fun H locs hP hS => ?_)
  cases hf
  exact r_iret C hP hS dX11_code_10
def fX11_fault (σ : St) (a0 : Int32) : Option (Int32 × St) :=
(nmS (st_put σ 0 0 0) fun σ1 =>
(if a0 = 0 then
some ((σ1 0 39), σ1)
else
(if a0 = 1 then
some ((σ1 0 40), σ1)
else
some ((-1), σ1))))
set_option maxHeartbeats 4000000 in
theorem c_fX11_fault {E : Ev} {l : Launch} (hj : jW false E) (σ : St) (sz : Nat) (a0 : Int32) {rr : Int32} {sr : St} (hf : fX11_fault σ a0 = some (rr, sr)) : Met l yX11_fault (Cond.code yX11_fault cX11_fault 2 (some .int) :: gT) (rmD 1) (va_Pc [.ref (ea E 0), .int a0] (preW false E σ sz)) (QI false E rr sr sz) 0 0 (aW false E sz) := by
  refine r_entry (QI false E rr sr) hj (by decide) [.ref (ea E 0), .int a0] (Nat.le_of_ble_eq_true rfl) (fun p e s m args below meth c C => ?_)
  intro H locs ls hP hS hl
  have hl : lv_has ls 2 [(0, .ref (ea E 0)), (1, .int a0)] := hl
  obtain ⟨hx, hb, hr, hml, hown, hts, hlocks, hK, hX, hj⟩ := id C
  unfold fX11_fault at hf
  refine lv_aload_n hx hb dX11_fault_0 rfl (lv_at hl 0 rfl) ?_
  refine lv_iconst (v := 0) hx hb dX11_fault_1 (by decide) ?_
  refine r_put (k := 0) (x := 0) C hP hS tyX11 tyX11_ok nmX11 oM_0 rfl iX11 (by decide) wm_t1017 rfl rfl sM_0_0 rfl rfl (Nat.le_of_ble_eq_true rfl) dX11_fault_2 (fun H locs hP hS => ?_)
  obtain ⟨σ1, eσ1, hf⟩ := nmS_e hf
  rw [← eσ1] at hP
  refine lv_iload_n hx hb dX11_fault_5 rfl (lv_at hl 1 rfl) ?_
  refine lv_if_ne (tgt := 16) hx hb dX11_fault_6 (by decide) (fun c2 => ?_) (fun c2 => ?_)
  · replace hf := it_f c2 hf
    refine lv_iload_n hx hb dX11_fault_16 rfl (lv_at hl 1 rfl) ?_
    refine lv_iconst (v := 1) hx hb dX11_fault_17 (by decide) ?_
    refine lv_icmp_ne (tgt := 28) hx hb dX11_fault_18 (by decide) (fun c3 => ?_) (fun c3 => ?_)
    · replace hf := it_f c3 hf
      refine lv_iconst (v := (-1)) hx hb dX11_fault_28 (by decide) ?_
      cases hf
      exact r_iret C hP hS dX11_fault_29
    · replace hf := it_t c3 hf
      refine lv_aload_n hx hb dX11_fault_21 rfl (lv_at hl 0 rfl) ?_
      refine r_get (k := 40) (v := .int (σ1 0 40)) C hP oM_0 rfl iX11 (by decide) wm_t1057 rfl rfl dX11_fault_22 ?_
      refine lv_goto (tgt := 29) hx hb dX11_fault_25 (by decide) ?_
      cases hf
      exact r_iret C hP hS dX11_fault_29
  · replace hf := it_t c2 hf
    refine lv_aload_n hx hb dX11_fault_9 rfl (lv_at hl 0 rfl) ?_
    refine r_get (k := 39) (v := .int (σ1 0 39)) C hP oM_0 rfl iX11 (by decide) wm_t1056 rfl rfl dX11_fault_10 ?_
    refine lv_goto (tgt := 29) hx hb dX11_fault_13 (by decide) ?_
    cases hf
    exact r_iret C hP hS dX11_fault_29
def fX11_twoOf (a0 : Int32) (a1 : Int32) (a2 : Int32) : Option Int32 :=
(if a0 = 2 then
some (a1 + a2)
else
(if a0 = 3 then
some (a1 - a2)
else
(if a0 = 4 then
some (a1 * a2)
else
(if a0 = 5 then
(nz a2 (
some (a1 / a2)))
else
(if a0 = 6 then
(if a2 ≤ a1 then
some 0
else
some 1)
else
(if a0 = 7 then
(if a1 = a2 then
some 1
else
some 0)
else
(if a0 = 8 then
(if a1 ≤ a2 then
some 0
else
some 1)
else
(if a0 = 10 then
some (a1 * a2)
else
(if (a1 + a2) ≤ 0 then
some 0
else
some 1)))))))))
set_option maxHeartbeats 4000000 in
theorem c_fX11_twoOf {E : Ev} {l : Launch} (hj : jW false E) (σ : St) (sz : Nat) (a0 : Int32) (a1 : Int32) (a2 : Int32) {rr : Int32} (hf : fX11_twoOf a0 a1 a2 = some rr) : Met l yX11_twoOf (Cond.code yX11_twoOf cX11_twoOf 4 (some .int) :: gT) (rmD 1) (va_Pc [.ref (ea E 0), .int a0, .int a1, .int a2] (preW false E σ sz)) (QI false E rr σ sz) 0 0 (aW false E sz) := by
  refine r_entry (QI false E rr σ) hj (by decide) [.ref (ea E 0), .int a0, .int a1, .int a2] (Nat.le_of_ble_eq_true rfl) (fun p e s m args below meth c C => ?_)
  intro H locs ls hP hS hl
  have hl : lv_has ls 4 [(0, .ref (ea E 0)), (1, .int a0), (2, .int a1), (3, .int a2)] := hl
  obtain ⟨hx, hb, hr, hml, hown, hts, hlocks, hK, hX, hj⟩ := id C
  unfold fX11_twoOf at hf
  refine lv_iload_n hx hb dX11_twoOf_0 rfl (lv_at hl 1 rfl) ?_
  refine lv_iconst (v := 2) hx hb dX11_twoOf_1 (by decide) ?_
  refine lv_icmp_ne (tgt := 9) hx hb dX11_twoOf_2 (by decide) (fun c1 => ?_) (fun c1 => ?_)
  · replace hf := it_f c1 hf
    refine lv_iload_n hx hb dX11_twoOf_9 rfl (lv_at hl 1 rfl) ?_
    refine lv_iconst (v := 3) hx hb dX11_twoOf_10 (by decide) ?_
    refine lv_icmp_ne (tgt := 18) hx hb dX11_twoOf_11 (by decide) (fun c2 => ?_) (fun c2 => ?_)
    · replace hf := it_f c2 hf
      refine lv_iload_n hx hb dX11_twoOf_18 rfl (lv_at hl 1 rfl) ?_
      refine lv_iconst (v := 4) hx hb dX11_twoOf_19 (by decide) ?_
      refine lv_icmp_ne (tgt := 27) hx hb dX11_twoOf_20 (by decide) (fun c3 => ?_) (fun c3 => ?_)
      · replace hf := it_f c3 hf
        refine lv_iload_n hx hb dX11_twoOf_27 rfl (lv_at hl 1 rfl) ?_
        refine lv_iconst (v := 5) hx hb dX11_twoOf_28 (by decide) ?_
        refine lv_icmp_ne (tgt := 36) hx hb dX11_twoOf_29 (by decide) (fun c4 => ?_) (fun c4 => ?_)
        · replace hf := it_f c4 hf
          refine lv_iload_n hx hb dX11_twoOf_36 rfl (lv_at hl 1 rfl) ?_
          refine lv_bipush (v := 6) hx hb dX11_twoOf_37 (by decide) ?_
          refine lv_icmp_ne (tgt := 53) hx hb dX11_twoOf_39 (by decide) (fun c5 => ?_) (fun c5 => ?_)
          · replace hf := it_f c5 hf
            refine lv_iload_n hx hb dX11_twoOf_53 rfl (lv_at hl 1 rfl) ?_
            refine lv_bipush (v := 7) hx hb dX11_twoOf_54 (by decide) ?_
            refine lv_icmp_ne (tgt := 70) hx hb dX11_twoOf_56 (by decide) (fun c6 => ?_) (fun c6 => ?_)
            · replace hf := it_f c6 hf
              refine lv_iload_n hx hb dX11_twoOf_70 rfl (lv_at hl 1 rfl) ?_
              refine lv_bipush (v := 8) hx hb dX11_twoOf_71 (by decide) ?_
              refine lv_icmp_ne (tgt := 87) hx hb dX11_twoOf_73 (by decide) (fun c7 => ?_) (fun c7 => ?_)
              · replace hf := it_f c7 hf
                refine lv_iload_n hx hb dX11_twoOf_87 rfl (lv_at hl 1 rfl) ?_
                refine lv_bipush (v := 10) hx hb dX11_twoOf_88 (by decide) ?_
                refine lv_icmp_ne (tgt := 99) hx hb dX11_twoOf_90 (by decide) (fun c8 => ?_) (fun c8 => ?_)
                · replace hf := it_f c8 hf
                  refine lv_iload_n hx hb dX11_twoOf_99 rfl (lv_at hl 2 rfl) ?_
                  refine lv_iload_n hx hb dX11_twoOf_100 rfl (lv_at hl 3 rfl) ?_
                  refine lv_iadd hx hb dX11_twoOf_101 ?_
                  refine lv_if_le (tgt := 109) hx hb dX11_twoOf_102 (by decide) (fun c9 => ?_) (fun c9 => ?_)
                  · replace hf := it_t c9 hf
                    refine lv_iconst (v := 0) hx hb dX11_twoOf_109 (by decide) ?_
                    cases hf
                    exact r_iret C hP hS dX11_twoOf_110
                  · replace hf := it_f c9 hf
                    refine lv_iconst (v := 1) hx hb dX11_twoOf_105 (by decide) ?_
                    refine lv_goto (tgt := 110) hx hb dX11_twoOf_106 (by decide) ?_
                    cases hf
                    exact r_iret C hP hS dX11_twoOf_110
                · replace hf := it_t c8 hf
                  refine lv_iload_n hx hb dX11_twoOf_93 rfl (lv_at hl 2 rfl) ?_
                  refine lv_iload_n hx hb dX11_twoOf_94 rfl (lv_at hl 3 rfl) ?_
                  refine lv_imul hx hb dX11_twoOf_95 ?_
                  refine lv_goto (tgt := 110) hx hb dX11_twoOf_96 (by decide) ?_
                  cases hf
                  exact r_iret C hP hS dX11_twoOf_110
              · replace hf := it_t c7 hf
                refine lv_iload_n hx hb dX11_twoOf_76 rfl (lv_at hl 2 rfl) ?_
                refine lv_iload_n hx hb dX11_twoOf_77 rfl (lv_at hl 3 rfl) ?_
                refine lv_icmp_le (tgt := 85) hx hb dX11_twoOf_78 (by decide) (fun c10 => ?_) (fun c10 => ?_)
                · replace hf := it_t c10 hf
                  refine lv_iconst (v := 0) hx hb dX11_twoOf_85 (by decide) ?_
                  cases hf
                  exact r_iret C hP hS dX11_twoOf_86
                · replace hf := it_f c10 hf
                  refine lv_iconst (v := 1) hx hb dX11_twoOf_81 (by decide) ?_
                  refine lv_goto (tgt := 86) hx hb dX11_twoOf_82 (by decide) ?_
                  cases hf
                  exact r_iret C hP hS dX11_twoOf_86
            · replace hf := it_t c6 hf
              refine lv_iload_n hx hb dX11_twoOf_59 rfl (lv_at hl 2 rfl) ?_
              refine lv_iload_n hx hb dX11_twoOf_60 rfl (lv_at hl 3 rfl) ?_
              refine lv_icmp_ne (tgt := 68) hx hb dX11_twoOf_61 (by decide) (fun c11 => ?_) (fun c11 => ?_)
              · replace hf := it_f c11 hf
                refine lv_iconst (v := 0) hx hb dX11_twoOf_68 (by decide) ?_
                cases hf
                exact r_iret C hP hS dX11_twoOf_69
              · replace hf := it_t c11 hf
                refine lv_iconst (v := 1) hx hb dX11_twoOf_64 (by decide) ?_
                refine lv_goto (tgt := 69) hx hb dX11_twoOf_65 (by decide) ?_
                cases hf
                exact r_iret C hP hS dX11_twoOf_69
          · replace hf := it_t c5 hf
            refine lv_iload_n hx hb dX11_twoOf_42 rfl (lv_at hl 2 rfl) ?_
            refine lv_iload_n hx hb dX11_twoOf_43 rfl (lv_at hl 3 rfl) ?_
            refine lv_icmp_ge (tgt := 51) hx hb dX11_twoOf_44 (by decide) (fun c12 => ?_) (fun c12 => ?_)
            · replace hf := it_t c12 hf
              refine lv_iconst (v := 0) hx hb dX11_twoOf_51 (by decide) ?_
              cases hf
              exact r_iret C hP hS dX11_twoOf_52
            · replace hf := it_f c12 hf
              refine lv_iconst (v := 1) hx hb dX11_twoOf_47 (by decide) ?_
              refine lv_goto (tgt := 52) hx hb dX11_twoOf_48 (by decide) ?_
              cases hf
              exact r_iret C hP hS dX11_twoOf_52
        · replace hf := it_t c4 hf
          refine lv_iload_n hx hb dX11_twoOf_32 rfl (lv_at hl 2 rfl) ?_
          refine lv_iload_n hx hb dX11_twoOf_33 rfl (lv_at hl 3 rfl) ?_
          obtain ⟨h13, hf⟩ := nz_e hf
          refine lv_idiv hx hb dX11_twoOf_34 h13 ?_
          cases hf
          exact r_iret C hP hS dX11_twoOf_35
      · replace hf := it_t c3 hf
        refine lv_iload_n hx hb dX11_twoOf_23 rfl (lv_at hl 2 rfl) ?_
        refine lv_iload_n hx hb dX11_twoOf_24 rfl (lv_at hl 3 rfl) ?_
        refine lv_imul hx hb dX11_twoOf_25 ?_
        cases hf
        exact r_iret C hP hS dX11_twoOf_26
    · replace hf := it_t c2 hf
      refine lv_iload_n hx hb dX11_twoOf_14 rfl (lv_at hl 2 rfl) ?_
      refine lv_iload_n hx hb dX11_twoOf_15 rfl (lv_at hl 3 rfl) ?_
      refine lv_isub hx hb dX11_twoOf_16 ?_
      cases hf
      exact r_iret C hP hS dX11_twoOf_17
  · replace hf := it_t c1 hf
    refine lv_iload_n hx hb dX11_twoOf_5 rfl (lv_at hl 2 rfl) ?_
    refine lv_iload_n hx hb dX11_twoOf_6 rfl (lv_at hl 3 rfl) ?_
    refine lv_iadd hx hb dX11_twoOf_7 ?_
    cases hf
    exact r_iret C hP hS dX11_twoOf_8
def fX11_worth_83 (rec12 : St → Int32 → Int32 → Int32 → Int32 → Option (Int32 × St)) (σ : St) (x1 : Int32) (x3 : Int32) (x4 : Int32) (x5 : Int32) (y0 : Int32) (y1 : Int32) : Option (Int32 × St) :=
(wrK 620 σ 25 y1 y0 fun σ1 =>
rec12 σ1 x1 x3 (x4 + 1) (x5 + 1))
set_option maxHeartbeats 4000000 in
theorem b_fX11_worth_83 {E : Ev} {l : Launch} {p : Program} {e : Env} {s : State} {m : MethodId} {args : Array Value} {below : List Frame} {meth : Method} {c : Code} (C : CX false E RX11 cX11_worth 6 (some .int) p s m args meth c) {rr : Int32} {sr : St} (rec12 : St → Int32 → Int32 → Int32 → Int32 → Option (Int32 × St)) (hr12 : ∀ (σ : St) (x1 : Int32) (x3 : Int32) (x4 : Int32) (x5 : Int32), rec12 σ x1 x3 x4 x5 = some (rr, sr) → GW false l (rmD 2) E 6 p e s m args below meth c (MQ below (QI false E rr sr s.heap.size) args s 0 0 (aW false E s.heap.size)) σ 12 [(0, .ref (ea E 0)), (1, .int x1), (3, .int x3), (4, .int x4), (5, .int x5)] []) : ∀ (σ : St) (x1 : Int32) (x3 : Int32) (x4 : Int32) (x5 : Int32) (y0 : Int32) (y1 : Int32), fX11_worth_83 rec12 σ x1 x3 x4 x5 y0 y1 = some (rr, sr) → GW false l (rmD 2) E 6 p e s m args below meth c (MQ below (QI false E rr sr s.heap.size) args s 0 0 (aW false E s.heap.size)) σ 83 [(0, .ref (ea E 0)), (1, .int x1), (3, .int x3), (4, .int x4), (5, .int x5)] [.int y0, .int y1, .ref (ea E 25)] := by
  intro σ x1 x3 x4 x5 y0 y1 hf H locs ls hP hS hl
  obtain ⟨hx, hb, hr, hml, hown, hts, hlocks, hK, hX, hj⟩ := id C
  unfold fX11_worth_83 at hf
  obtain ⟨h2, σ1, eσ1, hf⟩ := wrK_e hf
  refine r_ast C hP hS aM_25 h2 dX11_worth_83 (fun H locs hP hS => ?_)
  rw [← eσ1] at hP
  refine lv_iload hx hb dX11_worth_84 (lv_at hl 3 rfl) ?_
  refine lv_iconst (v := 1) hx hb dX11_worth_86 (by decide) ?_
  refine lv_iadd hx hb dX11_worth_87 ?_
  refine lv_istore (lv' := [(4, .int (x4 + 1)), (0, .ref (ea E 0)), (1, .int x1), (3, .int x3), (5, .int x5)]) hx hb dX11_worth_88 hl (by decide) rfl (fun ls hl => ?_)
  refine lv_goto (tgt := 170) hx hb dX11_worth_90 (by decide) ?_
  refine lv_iinc (v := (x5 + 1)) (lv' := [(5, .int (x5 + 1)), (4, .int (x4 + 1)), (0, .ref (ea E 0)), (1, .int x1), (3, .int x3)]) hx hb dX11_worth_170 hl (k := 4) rfl rfl (by decide) rfl (fun ls hl => ?_)
  refine lv_goto (tgt := 12) hx hb dX11_worth_173 (by decide) ?_
  exact hr12 σ1 x1 x3 (x4 + 1) (x5 + 1) hf H locs ls hP hS (lv_sub hl [2, 3, 4, 1, 0] rfl)
def fX11_worth_45 (rec12 : St → Int32 → Int32 → Int32 → Int32 → Option (Int32 × St)) (σ : St) (x1 : Int32) (x3 : Int32) (x4 : Int32) (x5 : Int32) : Option (Int32 × St) :=
(rdK 1800 (σ 21) x5 fun v1 =>
(if v1 = 0 then
(rdK 1800 (σ 22) x5 fun v8 =>
fX11_worth_83 rec12 σ x1 x3 x4 x5 v8 x4)
else
(rdK 1800 (σ 22) x5 fun v4 =>
(rdK 16 (σ 24) v4 fun v6 =>
fX11_worth_83 rec12 σ x1 x3 x4 x5 v6 x4))))
set_option maxHeartbeats 4000000 in
theorem b_fX11_worth_45 {E : Ev} {l : Launch} {p : Program} {e : Env} {s : State} {m : MethodId} {args : Array Value} {below : List Frame} {meth : Method} {c : Code} (C : CX false E RX11 cX11_worth 6 (some .int) p s m args meth c) {rr : Int32} {sr : St} (rec12 : St → Int32 → Int32 → Int32 → Int32 → Option (Int32 × St)) (hr12 : ∀ (σ : St) (x1 : Int32) (x3 : Int32) (x4 : Int32) (x5 : Int32), rec12 σ x1 x3 x4 x5 = some (rr, sr) → GW false l (rmD 2) E 6 p e s m args below meth c (MQ below (QI false E rr sr s.heap.size) args s 0 0 (aW false E s.heap.size)) σ 12 [(0, .ref (ea E 0)), (1, .int x1), (3, .int x3), (4, .int x4), (5, .int x5)] []) : ∀ (σ : St) (x1 : Int32) (x3 : Int32) (x4 : Int32) (x5 : Int32), fX11_worth_45 rec12 σ x1 x3 x4 x5 = some (rr, sr) → GW false l (rmD 2) E 6 p e s m args below meth c (MQ below (QI false E rr sr s.heap.size) args s 0 0 (aW false E s.heap.size)) σ 45 [(0, .ref (ea E 0)), (1, .int x1), (3, .int x3), (4, .int x4), (5, .int x5)] [] := by
  intro σ x1 x3 x4 x5 hf H locs ls hP hS hl
  obtain ⟨hx, hb, hr, hml, hown, hts, hlocks, hK, hX, hj⟩ := id C
  unfold fX11_worth_45 at hf
  refine lv_aload_n hx hb dX11_worth_45 rfl (lv_at hl 0 rfl) ?_
  refine r_get (k := 42) (v := .ref (ea E 25)) C hP oM_0 rfl iX11 (by decide) wm_t1059 rfl rfl dX11_worth_46 ?_
  refine lv_iload hx hb dX11_worth_49 (lv_at hl 3 rfl) ?_
  refine lv_aload_n hx hb dX11_worth_51 rfl (lv_at hl 0 rfl) ?_
  refine r_get (k := 30) (v := .ref (ea E 21)) C hP oM_0 rfl iX11 (by decide) wm_t1047 rfl rfl dX11_worth_52 ?_
  refine lv_iload hx hb dX11_worth_55 (lv_at hl 4 rfl) ?_
  have h2 := (rdK_e hf).1
  refine r_ald C hP aM_21 h2 dX11_worth_57 ?_
  refine lv_topi (fun v1 ev1 => ?_)
  replace hf := rdK_n ev1 hf
  refine lv_if_ne (tgt := 71) hx hb dX11_worth_58 (by decide) (fun c3 => ?_) (fun c3 => ?_)
  · replace hf := it_f c3 hf
    refine lv_aload_n hx hb dX11_worth_71 rfl (lv_at hl 0 rfl) ?_
    refine r_get (k := 41) (v := .ref (ea E 24)) C hP oM_0 rfl iX11 (by decide) wm_t1058 rfl rfl dX11_worth_72 ?_
    refine lv_aload_n hx hb dX11_worth_75 rfl (lv_at hl 0 rfl) ?_
    refine r_get (k := 31) (v := .ref (ea E 22)) C hP oM_0 rfl iX11 (by decide) wm_t1048 rfl rfl dX11_worth_76 ?_
    refine lv_iload hx hb dX11_worth_79 (lv_at hl 4 rfl) ?_
    have h5 := (rdK_e hf).1
    refine r_ald C hP aM_22 h5 dX11_worth_81 ?_
    refine lv_topi (fun v4 ev4 => ?_)
    replace hf := rdK_n ev4 hf
    have h7 := (rdK_e hf).1
    refine r_ald C hP aM_24 h7 dX11_worth_82 ?_
    refine lv_topi (fun v6 ev6 => ?_)
    replace hf := rdK_n ev6 hf
    exact b_fX11_worth_83 C rec12 hr12 σ x1 x3 x4 x5 v6 x4 hf H locs ls hP hS (lv_sub hl [0, 1, 2, 3, 4] rfl)
  · replace hf := it_t c3 hf
    refine lv_aload_n hx hb dX11_worth_61 rfl (lv_at hl 0 rfl) ?_
    refine r_get (k := 31) (v := .ref (ea E 22)) C hP oM_0 rfl iX11 (by decide) wm_t1048 rfl rfl dX11_worth_62 ?_
    refine lv_iload hx hb dX11_worth_65 (lv_at hl 4 rfl) ?_
    have h9 := (rdK_e hf).1
    refine r_ald C hP aM_22 h9 dX11_worth_67 ?_
    refine lv_topi (fun v8 ev8 => ?_)
    replace hf := rdK_n ev8 hf
    refine lv_goto (tgt := 83) hx hb dX11_worth_68 (by decide) ?_
    exact b_fX11_worth_83 C rec12 hr12 σ x1 x3 x4 x5 v8 x4 hf H locs ls hP hS (lv_sub hl [0, 1, 2, 3, 4] rfl)
def fX11_worth_12B (rec12 : St → Int32 → Int32 → Int32 → Int32 → Option (Int32 × St)) (σ : St) (x1 : Int32) (x3 : Int32) (x4 : Int32) (x5 : Int32) : Option (Int32 × St) :=
(if ((600 * x1) + x3) ≤ x5 then
(rdK 620 (σ 25) 0 fun v2 =>
some (v2, σ))
else
(rdK 1800 (σ 21) x5 fun v4 =>
(if v4 = 0 then
fX11_worth_45 rec12 σ x1 x3 x4 x5
else
(rdK 1800 (σ 21) x5 fun v7 =>
(if v7 = 1 then
fX11_worth_45 rec12 σ x1 x3 x4 x5
else
(rdK 1800 (σ 21) x5 fun v10 =>
(if v10 = 9 then
(rdK 620 (σ 25) (x4 - 1) fun v23 =>
(wrK 620 σ 25 (x4 - 1) (1 - v23) fun σ25 =>
rec12 σ25 x1 x3 x4 (x5 + 1)))
else
(rdK 1800 (σ 21) x5 fun v13 =>
(rdK 620 (σ 25) ((x4 - 1) - 1) fun v15 =>
(rdK 620 (σ 25) (x4 - 1) fun v17 =>
(cq (fX11_twoOf v13 v15 v17) fun r19 =>
(wrK 620 σ 25 ((x4 - 1) - 1) r19 fun σ21 =>
rec12 σ21 x1 x3 (x4 - 1) (x5 + 1)))))))))))))
set_option maxHeartbeats 4000000 in
theorem b_fX11_worth_12B {E : Ev} {l : Launch} {p : Program} {e : Env} {s : State} {m : MethodId} {args : Array Value} {below : List Frame} {meth : Method} {c : Code} (C : CX false E RX11 cX11_worth 6 (some .int) p s m args meth c) {rr : Int32} {sr : St} (rec12 : St → Int32 → Int32 → Int32 → Int32 → Option (Int32 × St)) (hr12 : ∀ (σ : St) (x1 : Int32) (x3 : Int32) (x4 : Int32) (x5 : Int32), rec12 σ x1 x3 x4 x5 = some (rr, sr) → GW false l (rmD 2) E 6 p e s m args below meth c (MQ below (QI false E rr sr s.heap.size) args s 0 0 (aW false E s.heap.size)) σ 12 [(0, .ref (ea E 0)), (1, .int x1), (3, .int x3), (4, .int x4), (5, .int x5)] []) : ∀ (σ : St) (x1 : Int32) (x3 : Int32) (x4 : Int32) (x5 : Int32), fX11_worth_12B rec12 σ x1 x3 x4 x5 = some (rr, sr) → GW false l (rmD 2) E 6 p e s m args below meth c (MQ below (QI false E rr sr s.heap.size) args s 0 0 (aW false E s.heap.size)) σ 12 [(0, .ref (ea E 0)), (1, .int x1), (3, .int x3), (4, .int x4), (5, .int x5)] [] := by
  intro σ x1 x3 x4 x5 hf H locs ls hP hS hl
  obtain ⟨hx, hb, hr, hml, hown, hts, hlocks, hK, hX, hj⟩ := id C
  unfold fX11_worth_12B at hf
  refine lv_iload hx hb dX11_worth_12 (lv_at hl 4 rfl) ?_
  refine lv_sipush (v := 600) hx hb dX11_worth_14 (by decide) ?_
  refine lv_iload_n hx hb dX11_worth_17 rfl (lv_at hl 1 rfl) ?_
  refine lv_imul hx hb dX11_worth_18 ?_
  refine lv_iload_n hx hb dX11_worth_19 rfl (lv_at hl 2 rfl) ?_
  refine lv_iadd hx hb dX11_worth_20 ?_
  refine lv_icmp_ge (tgt := 176) hx hb dX11_worth_21 (by decide) (fun c1 => ?_) (fun c1 => ?_)
  · replace hf := it_t c1 hf
    refine lv_aload_n hx hb dX11_worth_176 rfl (lv_at hl 0 rfl) ?_
    refine r_get (k := 42) (v := .ref (ea E 25)) C hP oM_0 rfl iX11 (by decide) wm_t1059 rfl rfl dX11_worth_177 ?_
    refine lv_iconst (v := 0) hx hb dX11_worth_180 (by decide) ?_
    have h3 := (rdK_e hf).1
    refine r_ald C hP aM_25 h3 dX11_worth_181 ?_
    refine lv_topi (fun v2 ev2 => ?_)
    replace hf := rdK_n ev2 hf
    cases hf
    exact r_iret C hP hS dX11_worth_182
  · replace hf := it_f c1 hf
    refine lv_aload_n hx hb dX11_worth_24 rfl (lv_at hl 0 rfl) ?_
    refine r_get (k := 30) (v := .ref (ea E 21)) C hP oM_0 rfl iX11 (by decide) wm_t1047 rfl rfl dX11_worth_25 ?_
    refine lv_iload hx hb dX11_worth_28 (lv_at hl 4 rfl) ?_
    have h5 := (rdK_e hf).1
    refine r_ald C hP aM_21 h5 dX11_worth_30 ?_
    refine lv_topi (fun v4 ev4 => ?_)
    replace hf := rdK_n ev4 hf
    refine lv_if_eq (tgt := 45) hx hb dX11_worth_31 (by decide) (fun c6 => ?_) (fun c6 => ?_)
    · replace hf := it_t c6 hf
      exact b_fX11_worth_45 C rec12 hr12 σ x1 x3 x4 x5 hf H locs ls hP hS (lv_sub hl [0, 1, 2, 3, 4] rfl)
    · replace hf := it_f c6 hf
      refine lv_aload_n hx hb dX11_worth_34 rfl (lv_at hl 0 rfl) ?_
      refine r_get (k := 30) (v := .ref (ea E 21)) C hP oM_0 rfl iX11 (by decide) wm_t1047 rfl rfl dX11_worth_35 ?_
      refine lv_iload hx hb dX11_worth_38 (lv_at hl 4 rfl) ?_
      have h8 := (rdK_e hf).1
      refine r_ald C hP aM_21 h8 dX11_worth_40 ?_
      refine lv_topi (fun v7 ev7 => ?_)
      replace hf := rdK_n ev7 hf
      refine lv_iconst (v := 1) hx hb dX11_worth_41 (by decide) ?_
      refine lv_icmp_ne (tgt := 93) hx hb dX11_worth_42 (by decide) (fun c9 => ?_) (fun c9 => ?_)
      · replace hf := it_f c9 hf
        refine lv_aload_n hx hb dX11_worth_93 rfl (lv_at hl 0 rfl) ?_
        refine r_get (k := 30) (v := .ref (ea E 21)) C hP oM_0 rfl iX11 (by decide) wm_t1047 rfl rfl dX11_worth_94 ?_
        refine lv_iload hx hb dX11_worth_97 (lv_at hl 4 rfl) ?_
        have h11 := (rdK_e hf).1
        refine r_ald C hP aM_21 h11 dX11_worth_99 ?_
        refine lv_topi (fun v10 ev10 => ?_)
        replace hf := rdK_n ev10 hf
        refine lv_bipush (v := 9) hx hb dX11_worth_100 (by decide) ?_
        refine lv_icmp_ne (tgt := 128) hx hb dX11_worth_102 (by decide) (fun c12 => ?_) (fun c12 => ?_)
        · replace hf := it_f c12 hf
          refine lv_iload hx hb dX11_worth_128 (lv_at hl 3 rfl) ?_
          refine lv_iconst (v := 1) hx hb dX11_worth_130 (by decide) ?_
          refine lv_isub hx hb dX11_worth_131 ?_
          refine lv_istore (lv' := [(4, .int (x4 - 1)), (0, .ref (ea E 0)), (1, .int x1), (3, .int x3), (5, .int x5)]) hx hb dX11_worth_132 hl (by decide) rfl (fun ls hl => ?_)
          refine lv_aload_n hx hb dX11_worth_134 rfl (lv_at hl 1 rfl) ?_
          refine r_get (k := 42) (v := .ref (ea E 25)) C hP oM_0 rfl iX11 (by decide) wm_t1059 rfl rfl dX11_worth_135 ?_
          refine lv_iload hx hb dX11_worth_138 (lv_at hl 0 rfl) ?_
          refine lv_iconst (v := 1) hx hb dX11_worth_140 (by decide) ?_
          refine lv_isub hx hb dX11_worth_141 ?_
          refine lv_aload_n hx hb dX11_worth_142 rfl (lv_at hl 1 rfl) ?_
          refine lv_aload_n hx hb dX11_worth_143 rfl (lv_at hl 1 rfl) ?_
          refine r_get (k := 30) (v := .ref (ea E 21)) C hP oM_0 rfl iX11 (by decide) wm_t1047 rfl rfl dX11_worth_144 ?_
          refine lv_iload hx hb dX11_worth_147 (lv_at hl 4 rfl) ?_
          have h14 := (rdK_e hf).1
          refine r_ald C hP aM_21 h14 dX11_worth_149 ?_
          refine lv_topi (fun v13 ev13 => ?_)
          replace hf := rdK_n ev13 hf
          refine lv_aload_n hx hb dX11_worth_150 rfl (lv_at hl 1 rfl) ?_
          refine r_get (k := 42) (v := .ref (ea E 25)) C hP oM_0 rfl iX11 (by decide) wm_t1059 rfl rfl dX11_worth_151 ?_
          refine lv_iload hx hb dX11_worth_154 (lv_at hl 0 rfl) ?_
          refine lv_iconst (v := 1) hx hb dX11_worth_156 (by decide) ?_
          refine lv_isub hx hb dX11_worth_157 ?_
          have h16 := (rdK_e hf).1
          refine r_ald C hP aM_25 h16 dX11_worth_158 ?_
          refine lv_topi (fun v15 ev15 => ?_)
          replace hf := rdK_n ev15 hf
          refine lv_aload_n hx hb dX11_worth_159 rfl (lv_at hl 1 rfl) ?_
          refine r_get (k := 42) (v := .ref (ea E 25)) C hP oM_0 rfl iX11 (by decide) wm_t1059 rfl rfl dX11_worth_160 ?_
          refine lv_iload hx hb dX11_worth_163 (lv_at hl 0 rfl) ?_
          have h18 := (rdK_e hf).1
          refine r_ald C hP aM_25 h18 dX11_worth_165 ?_
          refine lv_topi (fun v17 ev17 => ?_)
          replace hf := rdK_n ev17 hf
          obtain ⟨r19, hc20, hf⟩ := cq_e hf
          refine r_cVi (n := 3) (As := [.int v13, .int v15, .int v17]) (rest := [.int ((x4 - 1) - 1), .ref (ea E 25)]) C (c_fX11_twoOf hj σ H.size v13 v15 v17 hc20) oM_0 rfl gv_RX11_277 (by decide +kernel) (rmD_le (by decide) (by decide)) rfl rfl (Nat.le_of_ble_eq_true rfl) dX11_worth_166 hP hS hl.1 (fun H locs hP hS => ?_)
          obtain ⟨h22, σ21, eσ21, hf⟩ := wrK_e hf
          refine r_ast C hP hS aM_25 h22 dX11_worth_169 (fun H locs hP hS => ?_)
          rw [← eσ21] at hP
          refine lv_iinc (v := (x5 + 1)) (lv' := [(5, .int (x5 + 1)), (4, .int (x4 - 1)), (0, .ref (ea E 0)), (1, .int x1), (3, .int x3)]) hx hb dX11_worth_170 hl (k := 4) rfl rfl (by decide) rfl (fun ls hl => ?_)
          refine lv_goto (tgt := 12) hx hb dX11_worth_173 (by decide) ?_
          exact hr12 σ21 x1 x3 (x4 - 1) (x5 + 1) hf H locs ls hP hS (lv_sub hl [2, 3, 4, 1, 0] rfl)
        · replace hf := it_t c12 hf
          refine lv_aload_n hx hb dX11_worth_105 rfl (lv_at hl 0 rfl) ?_
          refine r_get (k := 42) (v := .ref (ea E 25)) C hP oM_0 rfl iX11 (by decide) wm_t1059 rfl rfl dX11_worth_106 ?_
          refine lv_iload hx hb dX11_worth_109 (lv_at hl 3 rfl) ?_
          refine lv_iconst (v := 1) hx hb dX11_worth_111 (by decide) ?_
          refine lv_isub hx hb dX11_worth_112 ?_
          refine lv_iconst (v := 1) hx hb dX11_worth_113 (by decide) ?_
          refine lv_aload_n hx hb dX11_worth_114 rfl (lv_at hl 0 rfl) ?_
          refine r_get (k := 42) (v := .ref (ea E 25)) C hP oM_0 rfl iX11 (by decide) wm_t1059 rfl rfl dX11_worth_115 ?_
          refine lv_iload hx hb dX11_worth_118 (lv_at hl 3 rfl) ?_
          refine lv_iconst (v := 1) hx hb dX11_worth_120 (by decide) ?_
          refine lv_isub hx hb dX11_worth_121 ?_
          have h24 := (rdK_e hf).1
          refine r_ald C hP aM_25 h24 dX11_worth_122 ?_
          refine lv_topi (fun v23 ev23 => ?_)
          replace hf := rdK_n ev23 hf
          refine lv_isub hx hb dX11_worth_123 ?_
          obtain ⟨h26, σ25, eσ25, hf⟩ := wrK_e hf
          refine r_ast C hP hS aM_25 h26 dX11_worth_124 (fun H locs hP hS => ?_)
          rw [← eσ25] at hP
          refine lv_goto (tgt := 170) hx hb dX11_worth_125 (by decide) ?_
          refine lv_iinc (v := (x5 + 1)) (lv' := [(5, .int (x5 + 1)), (0, .ref (ea E 0)), (1, .int x1), (3, .int x3), (4, .int x4)]) hx hb dX11_worth_170 hl (k := 4) rfl rfl (by decide) rfl (fun ls hl => ?_)
          refine lv_goto (tgt := 12) hx hb dX11_worth_173 (by decide) ?_
          exact hr12 σ25 x1 x3 x4 (x5 + 1) hf H locs ls hP hS (lv_sub hl [1, 2, 3, 4, 0] rfl)
      · replace hf := it_t c9 hf
        exact b_fX11_worth_45 C rec12 hr12 σ x1 x3 x4 x5 hf H locs ls hP hS (lv_sub hl [0, 1, 2, 3, 4] rfl)
def fX11_worth_12 : Nat → St → Int32 → Int32 → Int32 → Int32 → Option (Int32 × St)
  | 0 => fun _ _ _ _ _ => none
  | n + 1 => fun σ x1 x3 x4 x5 => fX11_worth_12B (fX11_worth_12 n) σ x1 x3 x4 x5
theorem b_fX11_worth_12 {E : Ev} {l : Launch} {p : Program} {e : Env} {s : State} {m : MethodId} {args : Array Value} {below : List Frame} {meth : Method} {c : Code} (C : CX false E RX11 cX11_worth 6 (some .int) p s m args meth c) {rr : Int32} {sr : St} : ∀ (n : Nat) (σ : St) (x1 : Int32) (x3 : Int32) (x4 : Int32) (x5 : Int32), fX11_worth_12 n σ x1 x3 x4 x5 = some (rr, sr) → GW false l (rmD 2) E 6 p e s m args below meth c (MQ below (QI false E rr sr s.heap.size) args s 0 0 (aW false E s.heap.size)) σ 12 [(0, .ref (ea E 0)), (1, .int x1), (3, .int x3), (4, .int x4), (5, .int x5)] [] := by
  intro n
  induction n with
  | zero => intro σ x1 x3 x4 x5 hf; have hf : (none : Option _) = some _ := hf; cases hf
  | succ n ih => intro σ x1 x3 x4 x5 hf; exact b_fX11_worth_12B C (fX11_worth_12 n) ih σ x1 x3 x4 x5 hf
def fX11_worth (σ : St) (a0 : Int32) (a1 : Int32) (a2 : Int32) : Option (Int32 × St) :=
fX11_worth_12 FU σ a0 a2 0 ((600 * a0) + a1)
set_option maxHeartbeats 4000000 in
theorem c_fX11_worth {E : Ev} {l : Launch} (hj : jW false E) (σ : St) (sz : Nat) (a0 : Int32) (a1 : Int32) (a2 : Int32) {rr : Int32} {sr : St} (hf : fX11_worth σ a0 a1 a2 = some (rr, sr)) : Met l yX11_worth (Cond.code yX11_worth cX11_worth 6 (some .int) :: gT) (rmD 2) (va_Pc [.ref (ea E 0), .int a0, .int a1, .int a2] (preW false E σ sz)) (QI false E rr sr sz) 0 0 (aW false E sz) := by
  refine r_entry (QI false E rr sr) hj (by decide) [.ref (ea E 0), .int a0, .int a1, .int a2] (Nat.le_of_ble_eq_true rfl) (fun p e s m args below meth c C => ?_)
  intro H locs ls hP hS hl
  have hl : lv_has ls 6 [(0, .ref (ea E 0)), (1, .int a0), (2, .int a1), (3, .int a2)] := hl
  obtain ⟨hx, hb, hr, hml, hown, hts, hlocks, hK, hX, hj⟩ := id C
  unfold fX11_worth at hf
  refine lv_iconst (v := 0) hx hb dX11_worth_0 (by decide) ?_
  refine lv_istore (lv' := [(4, .int 0), (0, .ref (ea E 0)), (1, .int a0), (2, .int a1), (3, .int a2)]) hx hb dX11_worth_1 hl (by decide) rfl (fun ls hl => ?_)
  refine lv_sipush (v := 600) hx hb dX11_worth_3 (by decide) ?_
  refine lv_iload_n hx hb dX11_worth_6 rfl (lv_at hl 2 rfl) ?_
  refine lv_imul hx hb dX11_worth_7 ?_
  refine lv_iload_n hx hb dX11_worth_8 rfl (lv_at hl 3 rfl) ?_
  refine lv_iadd hx hb dX11_worth_9 ?_
  refine lv_istore (lv' := [(5, .int ((600 * a0) + a1)), (4, .int 0), (0, .ref (ea E 0)), (1, .int a0), (2, .int a1), (3, .int a2)]) hx hb dX11_worth_10 hl (by decide) rfl (fun ls hl => ?_)
  exact b_fX11_worth_12 C FU σ a0 a2 0 ((600 * a0) + a1) hf H locs ls hP hS (lv_sub hl [2, 3, 5, 1, 0] rfl)
def fX11_lawOf_60 (σ : St) (x2 : Int32) : Option (Int32 × St) :=
(rdK 48 (σ 18) x2 fun v1 =>
(rdK 48 (σ 19) x2 fun v3 =>
(cb (fX11_worth σ 0 v1 v3) fun r5 σ7 =>
some (r5, σ7))))
set_option maxHeartbeats 4000000 in
theorem b_fX11_lawOf_60 {E : Ev} {l : Launch} {p : Program} {e : Env} {s : State} {m : MethodId} {args : Array Value} {below : List Frame} {meth : Method} {c : Code} (C : CX false E RX11 cX11_lawOf 3 (some .int) p s m args meth c) {rr : Int32} {sr : St} : ∀ (σ : St) (x2 : Int32), fX11_lawOf_60 σ x2 = some (rr, sr) → GW false l (rmD 3) E 3 p e s m args below meth c (MQ below (QI false E rr sr s.heap.size) args s 0 0 (aW false E s.heap.size)) σ 60 [(0, .ref (ea E 0)), (2, .int x2)] [] := by
  intro σ x2 hf H locs ls hP hS hl
  obtain ⟨hx, hb, hr, hml, hown, hts, hlocks, hK, hX, hj⟩ := id C
  unfold fX11_lawOf_60 at hf
  refine lv_aload_n hx hb dX11_lawOf_60 rfl (lv_at hl 0 rfl) ?_
  refine lv_iconst (v := 0) hx hb dX11_lawOf_61 (by decide) ?_
  refine lv_aload_n hx hb dX11_lawOf_62 rfl (lv_at hl 0 rfl) ?_
  refine r_get (k := 27) (v := .ref (ea E 18)) C hP oM_0 rfl iX11 (by decide) wm_t1044 rfl rfl dX11_lawOf_63 ?_
  refine lv_iload_n hx hb dX11_lawOf_66 rfl (lv_at hl 1 rfl) ?_
  have h2 := (rdK_e hf).1
  refine r_ald C hP aM_18 h2 dX11_lawOf_67 ?_
  refine lv_topi (fun v1 ev1 => ?_)
  replace hf := rdK_n ev1 hf
  refine lv_aload_n hx hb dX11_lawOf_68 rfl (lv_at hl 0 rfl) ?_
  refine r_get (k := 28) (v := .ref (ea E 19)) C hP oM_0 rfl iX11 (by decide) wm_t1045 rfl rfl dX11_lawOf_69 ?_
  refine lv_iload_n hx hb dX11_lawOf_72 rfl (lv_at hl 1 rfl) ?_
  have h4 := (rdK_e hf).1
  refine r_ald C hP aM_19 h4 dX11_lawOf_73 ?_
  refine lv_topi (fun v3 ev3 => ?_)
  replace hf := rdK_n ev3 hf
  obtain ⟨r5, σ7, hc6, hf⟩ := cb_e hf
  refine r_cVi (n := 3) (As := [.int 0, .int v1, .int v3]) (rest := []) C (c_fX11_worth hj σ H.size 0 v1 v3 hc6) oM_0 rfl gv_RX11_280 (by decide +kernel) (rmD_le (by decide) (by decide)) rfl rfl (Nat.le_of_ble_eq_true rfl) dX11_lawOf_74 hP hS hl.1 (fun H locs hP hS => ?_)
  cases hf
  exact r_iret C hP hS dX11_lawOf_77
def fX11_lawOf_2B (rec2 : St → Int32 → Int32 → Option (Int32 × St)) (σ : St) (x1 : Int32) (x2 : Int32) : Option (Int32 × St) :=
(rdK 3 (σ 15) 0 fun v1 =>
(if v1 ≤ x2 then
some (0, σ)
else
(rdK 48 (σ 16) x2 fun v4 =>
(if v4 = x1 then
(rdK 48 (σ 20) x2 fun v7 =>
(rdK 48 (σ 19) x2 fun v9 =>
(if v7 = v9 then
fX11_lawOf_60 σ x2
else
(rdK 48 (σ 19) x2 fun v12 =>
(rdK 48 (σ 20) x2 fun v14 =>
(cb (fX11_worth σ 0 v12 v14) fun r16 σ18 =>
(if r16 = 0 then
rec2 σ18 x1 (x2 + 1)
else
fX11_lawOf_60 σ18 x2)))))))
else
rec2 σ x1 (x2 + 1)))))
set_option maxHeartbeats 4000000 in
theorem b_fX11_lawOf_2B {E : Ev} {l : Launch} {p : Program} {e : Env} {s : State} {m : MethodId} {args : Array Value} {below : List Frame} {meth : Method} {c : Code} (C : CX false E RX11 cX11_lawOf 3 (some .int) p s m args meth c) {rr : Int32} {sr : St} (rec2 : St → Int32 → Int32 → Option (Int32 × St)) (hr2 : ∀ (σ : St) (x1 : Int32) (x2 : Int32), rec2 σ x1 x2 = some (rr, sr) → GW false l (rmD 3) E 3 p e s m args below meth c (MQ below (QI false E rr sr s.heap.size) args s 0 0 (aW false E s.heap.size)) σ 2 [(0, .ref (ea E 0)), (1, .int x1), (2, .int x2)] []) : ∀ (σ : St) (x1 : Int32) (x2 : Int32), fX11_lawOf_2B rec2 σ x1 x2 = some (rr, sr) → GW false l (rmD 3) E 3 p e s m args below meth c (MQ below (QI false E rr sr s.heap.size) args s 0 0 (aW false E s.heap.size)) σ 2 [(0, .ref (ea E 0)), (1, .int x1), (2, .int x2)] [] := by
  intro σ x1 x2 hf H locs ls hP hS hl
  obtain ⟨hx, hb, hr, hml, hown, hts, hlocks, hK, hX, hj⟩ := id C
  unfold fX11_lawOf_2B at hf
  refine lv_iload_n hx hb dX11_lawOf_2 rfl (lv_at hl 2 rfl) ?_
  refine lv_aload_n hx hb dX11_lawOf_3 rfl (lv_at hl 0 rfl) ?_
  refine r_get (k := 24) (v := .ref (ea E 15)) C hP oM_0 rfl iX11 (by decide) wm_t1041 rfl rfl dX11_lawOf_4 ?_
  refine lv_iconst (v := 0) hx hb dX11_lawOf_7 (by decide) ?_
  have h2 := (rdK_e hf).1
  refine r_ald C hP aM_15 h2 dX11_lawOf_8 ?_
  refine lv_topi (fun v1 ev1 => ?_)
  replace hf := rdK_n ev1 hf
  refine lv_icmp_ge (tgt := 84) hx hb dX11_lawOf_9 (by decide) (fun c3 => ?_) (fun c3 => ?_)
  · replace hf := it_t c3 hf
    refine lv_iconst (v := 0) hx hb dX11_lawOf_84 (by decide) ?_
    cases hf
    exact r_iret C hP hS dX11_lawOf_85
  · replace hf := it_f c3 hf
    refine lv_aload_n hx hb dX11_lawOf_12 rfl (lv_at hl 0 rfl) ?_
    refine r_get (k := 25) (v := .ref (ea E 16)) C hP oM_0 rfl iX11 (by decide) wm_t1042 rfl rfl dX11_lawOf_13 ?_
    refine lv_iload_n hx hb dX11_lawOf_16 rfl (lv_at hl 2 rfl) ?_
    have h5 := (rdK_e hf).1
    refine r_ald C hP aM_16 h5 dX11_lawOf_17 ?_
    refine lv_topi (fun v4 ev4 => ?_)
    replace hf := rdK_n ev4 hf
    refine lv_iload_n hx hb dX11_lawOf_18 rfl (lv_at hl 1 rfl) ?_
    refine lv_icmp_eq (tgt := 25) hx hb dX11_lawOf_19 (by decide) (fun c6 => ?_) (fun c6 => ?_)
    · replace hf := it_t c6 hf
      refine lv_aload_n hx hb dX11_lawOf_25 rfl (lv_at hl 0 rfl) ?_
      refine r_get (k := 29) (v := .ref (ea E 20)) C hP oM_0 rfl iX11 (by decide) wm_t1046 rfl rfl dX11_lawOf_26 ?_
      refine lv_iload_n hx hb dX11_lawOf_29 rfl (lv_at hl 2 rfl) ?_
      have h8 := (rdK_e hf).1
      refine r_ald C hP aM_20 h8 dX11_lawOf_30 ?_
      refine lv_topi (fun v7 ev7 => ?_)
      replace hf := rdK_n ev7 hf
      refine lv_aload_n hx hb dX11_lawOf_31 rfl (lv_at hl 0 rfl) ?_
      refine r_get (k := 28) (v := .ref (ea E 19)) C hP oM_0 rfl iX11 (by decide) wm_t1045 rfl rfl dX11_lawOf_32 ?_
      refine lv_iload_n hx hb dX11_lawOf_35 rfl (lv_at hl 2 rfl) ?_
      have h10 := (rdK_e hf).1
      refine r_ald C hP aM_19 h10 dX11_lawOf_36 ?_
      refine lv_topi (fun v9 ev9 => ?_)
      replace hf := rdK_n ev9 hf
      refine lv_icmp_eq (tgt := 60) hx hb dX11_lawOf_37 (by decide) (fun c11 => ?_) (fun c11 => ?_)
      · replace hf := it_t c11 hf
        exact b_fX11_lawOf_60 C σ x2 hf H locs ls hP hS (lv_sub hl [0, 2] rfl)
      · replace hf := it_f c11 hf
        refine lv_aload_n hx hb dX11_lawOf_40 rfl (lv_at hl 0 rfl) ?_
        refine lv_iconst (v := 0) hx hb dX11_lawOf_41 (by decide) ?_
        refine lv_aload_n hx hb dX11_lawOf_42 rfl (lv_at hl 0 rfl) ?_
        refine r_get (k := 28) (v := .ref (ea E 19)) C hP oM_0 rfl iX11 (by decide) wm_t1045 rfl rfl dX11_lawOf_43 ?_
        refine lv_iload_n hx hb dX11_lawOf_46 rfl (lv_at hl 2 rfl) ?_
        have h13 := (rdK_e hf).1
        refine r_ald C hP aM_19 h13 dX11_lawOf_47 ?_
        refine lv_topi (fun v12 ev12 => ?_)
        replace hf := rdK_n ev12 hf
        refine lv_aload_n hx hb dX11_lawOf_48 rfl (lv_at hl 0 rfl) ?_
        refine r_get (k := 29) (v := .ref (ea E 20)) C hP oM_0 rfl iX11 (by decide) wm_t1046 rfl rfl dX11_lawOf_49 ?_
        refine lv_iload_n hx hb dX11_lawOf_52 rfl (lv_at hl 2 rfl) ?_
        have h15 := (rdK_e hf).1
        refine r_ald C hP aM_20 h15 dX11_lawOf_53 ?_
        refine lv_topi (fun v14 ev14 => ?_)
        replace hf := rdK_n ev14 hf
        obtain ⟨r16, σ18, hc17, hf⟩ := cb_e hf
        refine r_cVi (n := 3) (As := [.int 0, .int v12, .int v14]) (rest := []) C (c_fX11_worth hj σ H.size 0 v12 v14 hc17) oM_0 rfl gv_RX11_280 (by decide +kernel) (rmD_le (by decide) (by decide)) rfl rfl (Nat.le_of_ble_eq_true rfl) dX11_lawOf_54 hP hS hl.1 (fun H locs hP hS => ?_)
        refine lv_if_eq (tgt := 78) hx hb dX11_lawOf_57 (by decide) (fun c19 => ?_) (fun c19 => ?_)
        · replace hf := it_t c19 hf
          refine lv_iinc (v := (x2 + 1)) (lv' := [(2, .int (x2 + 1)), (0, .ref (ea E 0)), (1, .int x1)]) hx hb dX11_lawOf_78 hl (k := 2) rfl rfl (by decide) rfl (fun ls hl => ?_)
          refine lv_goto (tgt := 2) hx hb dX11_lawOf_81 (by decide) ?_
          exact hr2 σ18 x1 (x2 + 1) hf H locs ls hP hS (lv_sub hl [1, 2, 0] rfl)
        · replace hf := it_f c19 hf
          exact b_fX11_lawOf_60 C σ18 x2 hf H locs ls hP hS (lv_sub hl [0, 2] rfl)
    · replace hf := it_f c6 hf
      refine lv_goto (tgt := 78) hx hb dX11_lawOf_22 (by decide) ?_
      refine lv_iinc (v := (x2 + 1)) (lv' := [(2, .int (x2 + 1)), (0, .ref (ea E 0)), (1, .int x1)]) hx hb dX11_lawOf_78 hl (k := 2) rfl rfl (by decide) rfl (fun ls hl => ?_)
      refine lv_goto (tgt := 2) hx hb dX11_lawOf_81 (by decide) ?_
      exact hr2 σ x1 (x2 + 1) hf H locs ls hP hS (lv_sub hl [1, 2, 0] rfl)
def fX11_lawOf_2 : Nat → St → Int32 → Int32 → Option (Int32 × St)
  | 0 => fun _ _ _ => none
  | n + 1 => fun σ x1 x2 => fX11_lawOf_2B (fX11_lawOf_2 n) σ x1 x2
theorem b_fX11_lawOf_2 {E : Ev} {l : Launch} {p : Program} {e : Env} {s : State} {m : MethodId} {args : Array Value} {below : List Frame} {meth : Method} {c : Code} (C : CX false E RX11 cX11_lawOf 3 (some .int) p s m args meth c) {rr : Int32} {sr : St} : ∀ (n : Nat) (σ : St) (x1 : Int32) (x2 : Int32), fX11_lawOf_2 n σ x1 x2 = some (rr, sr) → GW false l (rmD 3) E 3 p e s m args below meth c (MQ below (QI false E rr sr s.heap.size) args s 0 0 (aW false E s.heap.size)) σ 2 [(0, .ref (ea E 0)), (1, .int x1), (2, .int x2)] [] := by
  intro n
  induction n with
  | zero => intro σ x1 x2 hf; have hf : (none : Option _) = some _ := hf; cases hf
  | succ n ih => intro σ x1 x2 hf; exact b_fX11_lawOf_2B C (fX11_lawOf_2 n) ih σ x1 x2 hf
def fX11_lawOf (σ : St) (a0 : Int32) : Option (Int32 × St) :=
fX11_lawOf_2 FU σ a0 0
set_option maxHeartbeats 4000000 in
theorem c_fX11_lawOf {E : Ev} {l : Launch} (hj : jW false E) (σ : St) (sz : Nat) (a0 : Int32) {rr : Int32} {sr : St} (hf : fX11_lawOf σ a0 = some (rr, sr)) : Met l yX11_lawOf (Cond.code yX11_lawOf cX11_lawOf 3 (some .int) :: gT) (rmD 3) (va_Pc [.ref (ea E 0), .int a0] (preW false E σ sz)) (QI false E rr sr sz) 0 0 (aW false E sz) := by
  refine r_entry (QI false E rr sr) hj (by decide) [.ref (ea E 0), .int a0] (Nat.le_of_ble_eq_true rfl) (fun p e s m args below meth c C => ?_)
  intro H locs ls hP hS hl
  have hl : lv_has ls 3 [(0, .ref (ea E 0)), (1, .int a0)] := hl
  obtain ⟨hx, hb, hr, hml, hown, hts, hlocks, hK, hX, hj⟩ := id C
  unfold fX11_lawOf at hf
  refine lv_iconst (v := 0) hx hb dX11_lawOf_0 (by decide) ?_
  refine lv_istore_n (lv' := [(2, .int 0), (0, .ref (ea E 0)), (1, .int a0)]) hx hb dX11_lawOf_1 rfl hl (by decide) rfl (fun ls hl => ?_)
  exact b_fX11_lawOf_2 C FU σ a0 0 hf H locs ls hP hS (lv_sub hl [1, 2, 0] rfl)
def fX11_cut (a0 : Int32) (a1 : Int32) : Int32 :=
(if 0 ≤ a0 then
(if a0 ≤ a1 then
a0
else
a1)
else
0)
set_option maxHeartbeats 4000000 in
theorem c_fX11_cut {E : Ev} {l : Launch} (hj : jW false E) (σ : St) (sz : Nat) (a0 : Int32) (a1 : Int32) : Met l yX11_cut (Cond.code yX11_cut cX11_cut 3 (some .int) :: gT) (rmD 1) (va_Pc [.ref (ea E 0), .int a0, .int a1] (preW false E σ sz)) (QI false E (fX11_cut a0 a1) σ sz) 0 0 (aW false E sz) := by
  refine r_entry (QI false E (fX11_cut a0 a1) σ) hj (by decide) [.ref (ea E 0), .int a0, .int a1] (Nat.le_of_ble_eq_true rfl) (fun p e s m args below meth c C => ?_)
  intro H locs ls hP hS hl
  have hl : lv_has ls 3 [(0, .ref (ea E 0)), (1, .int a0), (2, .int a1)] := hl
  obtain ⟨hx, hb, hr, hml, hown, hts, hlocks, hK, hX, hj⟩ := id C
  generalize hf : fX11_cut a0 a1 = rr
  unfold fX11_cut at hf
  refine lv_iload_n hx hb dX11_cut_0 rfl (lv_at hl 1 rfl) ?_
  refine lv_if_ge (tgt := 8) hx hb dX11_cut_1 (by decide) (fun c1 => ?_) (fun c1 => ?_)
  · replace hf := it_t c1 hf
    refine lv_iload_n hx hb dX11_cut_8 rfl (lv_at hl 1 rfl) ?_
    refine lv_iload_n hx hb dX11_cut_9 rfl (lv_at hl 2 rfl) ?_
    refine lv_icmp_le (tgt := 17) hx hb dX11_cut_10 (by decide) (fun c2 => ?_) (fun c2 => ?_)
    · replace hf := it_t c2 hf
      refine lv_iload_n hx hb dX11_cut_17 rfl (lv_at hl 1 rfl) ?_
      subst hf
      exact r_iret C hP hS dX11_cut_18
    · replace hf := it_f c2 hf
      refine lv_iload_n hx hb dX11_cut_13 rfl (lv_at hl 2 rfl) ?_
      refine lv_goto (tgt := 18) hx hb dX11_cut_14 (by decide) ?_
      subst hf
      exact r_iret C hP hS dX11_cut_18
  · replace hf := it_f c1 hf
    refine lv_iconst (v := 0) hx hb dX11_cut_4 (by decide) ?_
    refine lv_goto (tgt := 18) hx hb dX11_cut_5 (by decide) ?_
    subst hf
    exact r_iret C hP hS dX11_cut_18
def fX11_takesHour (σ : St) (a0 : Int32) (a1 : Int32) (a2 : Int32) (a3 : Int32) : Option St :=
(cq (fX11_wetOf a0 a1) fun r1 =>
(wrK 16 σ 24 0 r1 fun σ3 =>
(wrK 16 σ3 24 1 a1 fun σ5 =>
(wrK 16 σ5 24 2 a0 fun σ7 =>
(wrK 16 σ7 24 3 a2 fun σ9 =>
(wrK 16 σ9 24 4 (σ9 0 2) fun σ11 =>
(rdK 30 (σ11 1) (a3 / 24) fun v13 =>
(wrK 16 σ11 24 5 v13 fun σ15 =>
(wrK 16 σ15 24 6 (a3 - a3 / 24 * 24) fun σ17 =>
some σ17)))))))))
set_option maxHeartbeats 4000000 in
theorem c_fX11_takesHour {E : Ev} {l : Launch} (hj : jW false E) (σ : St) (sz : Nat) (a0 : Int32) (a1 : Int32) (a2 : Int32) (a3 : Int32) {sr : St} (hf : fX11_takesHour σ a0 a1 a2 a3 = some sr) : Met l yX11_takesHour (Cond.code yX11_takesHour cX11_takesHour 5 none :: gT) (rmD 2) (va_Pc [.ref (ea E 0), .int a0, .int a1, .int a2, .int a3] (preW false E σ sz)) (QV false E sr sz) 0 0 (aW false E sz) := by
  refine r_entry (QV false E sr) hj (by decide) [.ref (ea E 0), .int a0, .int a1, .int a2, .int a3] (Nat.le_of_ble_eq_true rfl) (fun p e s m args below meth c C => ?_)
  intro H locs ls hP hS hl
  have hl : lv_has ls 5 [(0, .ref (ea E 0)), (1, .int a0), (2, .int a1), (3, .int a2), (4, .int a3)] := hl
  obtain ⟨hx, hb, hr, hml, hown, hts, hlocks, hK, hX, hj⟩ := id C
  unfold fX11_takesHour at hf
  refine lv_aload_n hx hb dX11_takesHour_0 rfl (lv_at hl 0 rfl) ?_
  refine r_get (k := 41) (v := .ref (ea E 24)) C hP oM_0 rfl iX11 (by decide) wm_t1058 rfl rfl dX11_takesHour_1 ?_
  refine lv_iconst (v := 0) hx hb dX11_takesHour_4 (by decide) ?_
  refine lv_aload_n hx hb dX11_takesHour_5 rfl (lv_at hl 0 rfl) ?_
  refine lv_iload_n hx hb dX11_takesHour_6 rfl (lv_at hl 1 rfl) ?_
  refine lv_iload_n hx hb dX11_takesHour_7 rfl (lv_at hl 2 rfl) ?_
  obtain ⟨r1, hc2, hf⟩ := cq_e hf
  refine r_cVi (n := 2) (As := [.int a0, .int a1]) (rest := [.int 0, .ref (ea E 24)]) C (c_fX11_wetOf hj σ H.size a0 a1 hc2) oM_0 rfl gv_RX11_158 (by decide +kernel) (rmD_le (by decide) (by decide)) rfl rfl (Nat.le_of_ble_eq_true rfl) dX11_takesHour_8 hP hS hl.1 (fun H locs hP hS => ?_)
  obtain ⟨h4, σ3, eσ3, hf⟩ := wrK_e hf
  refine r_ast C hP hS aM_24 h4 dX11_takesHour_11 (fun H locs hP hS => ?_)
  rw [← eσ3] at hP
  refine lv_aload_n hx hb dX11_takesHour_12 rfl (lv_at hl 0 rfl) ?_
  refine r_get (k := 41) (v := .ref (ea E 24)) C hP oM_0 rfl iX11 (by decide) wm_t1058 rfl rfl dX11_takesHour_13 ?_
  refine lv_iconst (v := 1) hx hb dX11_takesHour_16 (by decide) ?_
  refine lv_iload_n hx hb dX11_takesHour_17 rfl (lv_at hl 2 rfl) ?_
  obtain ⟨h6, σ5, eσ5, hf⟩ := wrK_e hf
  refine r_ast C hP hS aM_24 h6 dX11_takesHour_18 (fun H locs hP hS => ?_)
  rw [← eσ5] at hP
  refine lv_aload_n hx hb dX11_takesHour_19 rfl (lv_at hl 0 rfl) ?_
  refine r_get (k := 41) (v := .ref (ea E 24)) C hP oM_0 rfl iX11 (by decide) wm_t1058 rfl rfl dX11_takesHour_20 ?_
  refine lv_iconst (v := 2) hx hb dX11_takesHour_23 (by decide) ?_
  refine lv_iload_n hx hb dX11_takesHour_24 rfl (lv_at hl 1 rfl) ?_
  obtain ⟨h8, σ7, eσ7, hf⟩ := wrK_e hf
  refine r_ast C hP hS aM_24 h8 dX11_takesHour_25 (fun H locs hP hS => ?_)
  rw [← eσ7] at hP
  refine lv_aload_n hx hb dX11_takesHour_26 rfl (lv_at hl 0 rfl) ?_
  refine r_get (k := 41) (v := .ref (ea E 24)) C hP oM_0 rfl iX11 (by decide) wm_t1058 rfl rfl dX11_takesHour_27 ?_
  refine lv_iconst (v := 3) hx hb dX11_takesHour_30 (by decide) ?_
  refine lv_iload_n hx hb dX11_takesHour_31 rfl (lv_at hl 3 rfl) ?_
  obtain ⟨h10, σ9, eσ9, hf⟩ := wrK_e hf
  refine r_ast C hP hS aM_24 h10 dX11_takesHour_32 (fun H locs hP hS => ?_)
  rw [← eσ9] at hP
  refine lv_aload_n hx hb dX11_takesHour_33 rfl (lv_at hl 0 rfl) ?_
  refine r_get (k := 41) (v := .ref (ea E 24)) C hP oM_0 rfl iX11 (by decide) wm_t1058 rfl rfl dX11_takesHour_34 ?_
  refine lv_iconst (v := 4) hx hb dX11_takesHour_37 (by decide) ?_
  refine lv_aload_n hx hb dX11_takesHour_38 rfl (lv_at hl 0 rfl) ?_
  refine r_get (k := 2) (v := .int (σ9 0 2)) C hP oM_0 rfl iX11 (by decide) wm_t1019 rfl rfl dX11_takesHour_39 ?_
  obtain ⟨h12, σ11, eσ11, hf⟩ := wrK_e hf
  refine r_ast C hP hS aM_24 h12 dX11_takesHour_42 (fun H locs hP hS => ?_)
  rw [← eσ11] at hP
  refine lv_aload_n hx hb dX11_takesHour_43 rfl (lv_at hl 0 rfl) ?_
  refine r_get (k := 41) (v := .ref (ea E 24)) C hP oM_0 rfl iX11 (by decide) wm_t1058 rfl rfl dX11_takesHour_44 ?_
  refine lv_iconst (v := 5) hx hb dX11_takesHour_47 (by decide) ?_
  refine lv_aload_n hx hb dX11_takesHour_48 rfl (lv_at hl 0 rfl) ?_
  refine r_get (k := 3) (v := .ref (ea E 1)) C hP oM_0 rfl iX11 (by decide) wm_t1020 rfl rfl dX11_takesHour_49 ?_
  refine lv_iload hx hb dX11_takesHour_52 (lv_at hl 4 rfl) ?_
  refine lv_bipush (v := 24) hx hb dX11_takesHour_54 (by decide) ?_
  refine lv_idiv hx hb dX11_takesHour_56 (by decide) ?_
  have h14 := (rdK_e hf).1
  refine r_ald C hP aM_1 h14 dX11_takesHour_57 ?_
  refine lv_topi (fun v13 ev13 => ?_)
  replace hf := rdK_n ev13 hf
  obtain ⟨h16, σ15, eσ15, hf⟩ := wrK_e hf
  refine r_ast C hP hS aM_24 h16 dX11_takesHour_58 (fun H locs hP hS => ?_)
  rw [← eσ15] at hP
  refine lv_aload_n hx hb dX11_takesHour_59 rfl (lv_at hl 0 rfl) ?_
  refine r_get (k := 41) (v := .ref (ea E 24)) C hP oM_0 rfl iX11 (by decide) wm_t1058 rfl rfl dX11_takesHour_60 ?_
  refine lv_bipush (v := 6) hx hb dX11_takesHour_63 (by decide) ?_
  refine lv_iload hx hb dX11_takesHour_65 (lv_at hl 4 rfl) ?_
  refine lv_bipush (v := 24) hx hb dX11_takesHour_67 (by decide) ?_
  refine lv_irem hx hb dX11_takesHour_69 (by decide) ?_
  obtain ⟨h18, σ17, eσ17, hf⟩ := wrK_e hf
  refine r_ast C hP hS aM_24 h18 dX11_takesHour_70 (fun H locs hP hS => ?_)
  rw [← eσ17] at hP
  cases hf
  exact r_vret C hP hS dX11_takesHour_71
def fX11_takesHeap_113 (σ : St) (y0 : Int32) (y1 : Int32) : Option St :=
(wrK 16 σ 24 y1 y0 fun σ1 =>
some σ1)
set_option maxHeartbeats 4000000 in
theorem b_fX11_takesHeap_113 {E : Ev} {l : Launch} {p : Program} {e : Env} {s : State} {m : MethodId} {args : Array Value} {below : List Frame} {meth : Method} {c : Code} (C : CX false E RX11 cX11_takesHeap 4 none p s m args meth c) {sr : St} : ∀ (σ : St) (y0 : Int32) (y1 : Int32), fX11_takesHeap_113 σ y0 y1 = some sr → GW false l (rmD 3) E 4 p e s m args below meth c (MQ below (QV false E sr s.heap.size) args s 0 0 (aW false E s.heap.size)) σ 113 [] [.int y0, .int y1, .ref (ea E 24)] := by
  intro σ y0 y1 hf H locs ls hP hS hl
  obtain ⟨hx, hb, hr, hml, hown, hts, hlocks, hK, hX, hj⟩ := id C
  unfold fX11_takesHeap_113 at hf
  obtain ⟨h2, σ1, eσ1, hf⟩ := wrK_e hf
  refine r_ast C hP hS aM_24 h2 dX11_takesHeap_113 (fun H locs hP hS => ?_)
  rw [← eσ1] at hP
  cases hf
  exact r_vret C hP hS dX11_takesHeap_114
def fX11_takesHeap_112 (σ : St) (y0 : Int32) : Option St :=
fX11_takesHeap_113 σ 0 y0
set_option maxHeartbeats 4000000 in
theorem b_fX11_takesHeap_112 {E : Ev} {l : Launch} {p : Program} {e : Env} {s : State} {m : MethodId} {args : Array Value} {below : List Frame} {meth : Method} {c : Code} (C : CX false E RX11 cX11_takesHeap 4 none p s m args meth c) {sr : St} : ∀ (σ : St) (y0 : Int32), fX11_takesHeap_112 σ y0 = some sr → GW false l (rmD 3) E 4 p e s m args below meth c (MQ below (QV false E sr s.heap.size) args s 0 0 (aW false E s.heap.size)) σ 112 [] [.int y0, .ref (ea E 24)] := by
  intro σ y0 hf H locs ls hP hS hl
  obtain ⟨hx, hb, hr, hml, hown, hts, hlocks, hK, hX, hj⟩ := id C
  unfold fX11_takesHeap_112 at hf
  refine lv_iconst (v := 0) hx hb dX11_takesHeap_112 (by decide) ?_
  exact b_fX11_takesHeap_113 C σ 0 y0 hf H locs ls hP hS (lv_sub hl [] rfl)
def fX11_takesHeap_54 (σ : St) (x1 : Int32) (y0 : Int32) : Option St :=
(if y0 = 0 then
fX11_takesHeap_112 σ 8
else
(if 4 ≤ (x1 - x1 / 8 * 8) then
(if (fX11_isIn ((σ 0 1) - (σ 0 1) / 24 * 24) 12 17) = 0 then
fX11_takesHeap_112 σ 8
else
fX11_takesHeap_113 σ 1 8)
else
(if (fX11_isIn ((σ 0 1) - (σ 0 1) / 24 * 24) 6 11) = 0 then
fX11_takesHeap_112 σ 8
else
fX11_takesHeap_113 σ 1 8)))
set_option maxHeartbeats 4000000 in
theorem b_fX11_takesHeap_54 {E : Ev} {l : Launch} {p : Program} {e : Env} {s : State} {m : MethodId} {args : Array Value} {below : List Frame} {meth : Method} {c : Code} (C : CX false E RX11 cX11_takesHeap 4 none p s m args meth c) {sr : St} : ∀ (σ : St) (x1 : Int32) (y0 : Int32), fX11_takesHeap_54 σ x1 y0 = some sr → GW false l (rmD 3) E 4 p e s m args below meth c (MQ below (QV false E sr s.heap.size) args s 0 0 (aW false E s.heap.size)) σ 54 [(0, .ref (ea E 0)), (1, .int x1)] [.int y0] := by
  intro σ x1 y0 hf H locs ls hP hS hl
  obtain ⟨hx, hb, hr, hml, hown, hts, hlocks, hK, hX, hj⟩ := id C
  unfold fX11_takesHeap_54 at hf
  refine lv_istore_n (lv' := [(2, .int y0), (0, .ref (ea E 0)), (1, .int x1)]) hx hb dX11_takesHeap_54 rfl hl (by decide) rfl (fun ls hl => ?_)
  refine lv_aload_n hx hb dX11_takesHeap_55 rfl (lv_at hl 1 rfl) ?_
  refine r_get (k := 1) (v := .int (σ 0 1)) C hP oM_0 rfl iX11 (by decide) wm_t1018 rfl rfl dX11_takesHeap_56 ?_
  refine lv_bipush (v := 24) hx hb dX11_takesHeap_59 (by decide) ?_
  refine lv_irem hx hb dX11_takesHeap_61 (by decide) ?_
  refine lv_istore_n (lv' := [(3, .int ((σ 0 1) - (σ 0 1) / 24 * 24)), (2, .int y0), (0, .ref (ea E 0)), (1, .int x1)]) hx hb dX11_takesHeap_62 rfl hl (by decide) rfl (fun ls hl => ?_)
  refine lv_aload_n hx hb dX11_takesHeap_63 rfl (lv_at hl 2 rfl) ?_
  refine r_get (k := 41) (v := .ref (ea E 24)) C hP oM_0 rfl iX11 (by decide) wm_t1058 rfl rfl dX11_takesHeap_64 ?_
  refine lv_bipush (v := 8) hx hb dX11_takesHeap_67 (by decide) ?_
  refine lv_iload_n hx hb dX11_takesHeap_69 rfl (lv_at hl 1 rfl) ?_
  refine lv_if_eq (tgt := 112) hx hb dX11_takesHeap_70 (by decide) (fun c1 => ?_) (fun c1 => ?_)
  · replace hf := it_t c1 hf
    exact b_fX11_takesHeap_112 C σ 8 hf H locs ls hP hS (lv_sub hl [] rfl)
  · replace hf := it_f c1 hf
    refine lv_iload_n hx hb dX11_takesHeap_73 rfl (lv_at hl 3 rfl) ?_
    refine lv_bipush (v := 8) hx hb dX11_takesHeap_74 (by decide) ?_
    refine lv_irem hx hb dX11_takesHeap_76 (by decide) ?_
    refine lv_iconst (v := 4) hx hb dX11_takesHeap_77 (by decide) ?_
    refine lv_icmp_ge (tgt := 96) hx hb dX11_takesHeap_78 (by decide) (fun c2 => ?_) (fun c2 => ?_)
    · replace hf := it_t c2 hf
      refine lv_aload_n hx hb dX11_takesHeap_96 rfl (lv_at hl 2 rfl) ?_
      refine lv_iload_n hx hb dX11_takesHeap_97 rfl (lv_at hl 0 rfl) ?_
      refine lv_bipush (v := 12) hx hb dX11_takesHeap_98 (by decide) ?_
      refine lv_bipush (v := 17) hx hb dX11_takesHeap_100 (by decide) ?_
      refine r_cVi (n := 3) (As := [.int ((σ 0 1) - (σ 0 1) / 24 * 24), .int 12, .int 17]) (rest := [.int 8, .ref (ea E 24)]) C (c_fX11_isIn hj σ H.size ((σ 0 1) - (σ 0 1) / 24 * 24) 12 17) oM_0 rfl gv_RX11_144 (by decide +kernel) (rmD_le (by decide) (by decide)) rfl rfl (Nat.le_of_ble_eq_true rfl) dX11_takesHeap_102 hP hS hl.1 (fun H locs hP hS => ?_)
      refine lv_if_eq (tgt := 112) hx hb dX11_takesHeap_105 (by decide) (fun c3 => ?_) (fun c3 => ?_)
      · replace hf := it_t c3 hf
        exact b_fX11_takesHeap_112 C σ 8 hf H locs ls hP hS (lv_sub hl [] rfl)
      · replace hf := it_f c3 hf
        refine lv_iconst (v := 1) hx hb dX11_takesHeap_108 (by decide) ?_
        refine lv_goto (tgt := 113) hx hb dX11_takesHeap_109 (by decide) ?_
        exact b_fX11_takesHeap_113 C σ 1 8 hf H locs ls hP hS (lv_sub hl [] rfl)
    · replace hf := it_f c2 hf
      refine lv_aload_n hx hb dX11_takesHeap_81 rfl (lv_at hl 2 rfl) ?_
      refine lv_iload_n hx hb dX11_takesHeap_82 rfl (lv_at hl 0 rfl) ?_
      refine lv_bipush (v := 6) hx hb dX11_takesHeap_83 (by decide) ?_
      refine lv_bipush (v := 11) hx hb dX11_takesHeap_85 (by decide) ?_
      refine r_cVi (n := 3) (As := [.int ((σ 0 1) - (σ 0 1) / 24 * 24), .int 6, .int 11]) (rest := [.int 8, .ref (ea E 24)]) C (c_fX11_isIn hj σ H.size ((σ 0 1) - (σ 0 1) / 24 * 24) 6 11) oM_0 rfl gv_RX11_144 (by decide +kernel) (rmD_le (by decide) (by decide)) rfl rfl (Nat.le_of_ble_eq_true rfl) dX11_takesHeap_87 hP hS hl.1 (fun H locs hP hS => ?_)
      refine lv_if_eq (tgt := 112) hx hb dX11_takesHeap_90 (by decide) (fun c4 => ?_) (fun c4 => ?_)
      · replace hf := it_t c4 hf
        exact b_fX11_takesHeap_112 C σ 8 hf H locs ls hP hS (lv_sub hl [] rfl)
      · replace hf := it_f c4 hf
        refine lv_goto (tgt := 108) hx hb dX11_takesHeap_93 (by decide) ?_
        refine lv_iconst (v := 1) hx hb dX11_takesHeap_108 (by decide) ?_
        refine lv_goto (tgt := 113) hx hb dX11_takesHeap_109 (by decide) ?_
        exact b_fX11_takesHeap_113 C σ 1 8 hf H locs ls hP hS (lv_sub hl [] rfl)
def fX11_takesHeap (σ : St) (a0 : Int32) : Option St :=
(rdK 256 (σ 3) a0 fun v1 =>
(rdK 256 (σ 4) a0 fun v3 =>
(cv (fX11_takesHour σ v1 v3 (a0 / 64) (σ 0 1)) fun σ6 =>
(wrK 16 σ6 24 7 0 fun σ7 =>
(cq (fX11_heapHeight σ7 (a0 - a0 / 64 * 64)) fun r9 =>
(if r9 = ((a0 / 64) + 1) then
fX11_takesHeap_54 σ7 a0 1
else
fX11_takesHeap_54 σ7 a0 0))))))
set_option maxHeartbeats 4000000 in
theorem c_fX11_takesHeap {E : Ev} {l : Launch} (hj : jW false E) (σ : St) (sz : Nat) (a0 : Int32) {sr : St} (hf : fX11_takesHeap σ a0 = some sr) : Met l yX11_takesHeap (Cond.code yX11_takesHeap cX11_takesHeap 4 none :: gT) (rmD 3) (va_Pc [.ref (ea E 0), .int a0] (preW false E σ sz)) (QV false E sr sz) 0 0 (aW false E sz) := by
  refine r_entry (QV false E sr) hj (by decide) [.ref (ea E 0), .int a0] (Nat.le_of_ble_eq_true rfl) (fun p e s m args below meth c C => ?_)
  intro H locs ls hP hS hl
  have hl : lv_has ls 4 [(0, .ref (ea E 0)), (1, .int a0)] := hl
  obtain ⟨hx, hb, hr, hml, hown, hts, hlocks, hK, hX, hj⟩ := id C
  unfold fX11_takesHeap at hf
  refine lv_aload_n hx hb dX11_takesHeap_0 rfl (lv_at hl 0 rfl) ?_
  refine lv_aload_n hx hb dX11_takesHeap_1 rfl (lv_at hl 0 rfl) ?_
  refine r_get (k := 5) (v := .ref (ea E 3)) C hP oM_0 rfl iX11 (by decide) wm_t1022 rfl rfl dX11_takesHeap_2 ?_
  refine lv_iload_n hx hb dX11_takesHeap_5 rfl (lv_at hl 1 rfl) ?_
  have h2 := (rdK_e hf).1
  refine r_ald C hP aM_3 h2 dX11_takesHeap_6 ?_
  refine lv_topi (fun v1 ev1 => ?_)
  replace hf := rdK_n ev1 hf
  refine lv_aload_n hx hb dX11_takesHeap_7 rfl (lv_at hl 0 rfl) ?_
  refine r_get (k := 6) (v := .ref (ea E 4)) C hP oM_0 rfl iX11 (by decide) wm_t1023 rfl rfl dX11_takesHeap_8 ?_
  refine lv_iload_n hx hb dX11_takesHeap_11 rfl (lv_at hl 1 rfl) ?_
  have h4 := (rdK_e hf).1
  refine r_ald C hP aM_4 h4 dX11_takesHeap_12 ?_
  refine lv_topi (fun v3 ev3 => ?_)
  replace hf := rdK_n ev3 hf
  refine lv_iload_n hx hb dX11_takesHeap_13 rfl (lv_at hl 1 rfl) ?_
  refine lv_bipush (v := 64) hx hb dX11_takesHeap_14 (by decide) ?_
  refine lv_idiv hx hb dX11_takesHeap_16 (by decide) ?_
  refine lv_aload_n hx hb dX11_takesHeap_17 rfl (lv_at hl 0 rfl) ?_
  refine r_get (k := 1) (v := .int (σ 0 1)) C hP oM_0 rfl iX11 (by decide) wm_t1018 rfl rfl dX11_takesHeap_18 ?_
  obtain ⟨σ6, hc5, hf⟩ := cv_e hf
  refine r_cVv (n := 4) (As := [.int v1, .int v3, .int (a0 / 64), .int (σ 0 1)]) (rest := []) C (c_fX11_takesHour hj σ H.size v1 v3 (a0 / 64) (σ 0 1) hc5) oM_0 rfl gv_RX11_286 (by decide +kernel) (rmD_le (by decide) (by decide)) rfl rfl (Nat.le_of_ble_eq_true rfl) dX11_takesHeap_21 hP hS hl.1 (fun H locs hP hS => ?_)
  refine lv_aload_n hx hb dX11_takesHeap_24 rfl (lv_at hl 0 rfl) ?_
  refine r_get (k := 41) (v := .ref (ea E 24)) C hP oM_0 rfl iX11 (by decide) wm_t1058 rfl rfl dX11_takesHeap_25 ?_
  refine lv_bipush (v := 7) hx hb dX11_takesHeap_28 (by decide) ?_
  refine lv_iconst (v := 0) hx hb dX11_takesHeap_30 (by decide) ?_
  obtain ⟨h8, σ7, eσ7, hf⟩ := wrK_e hf
  refine r_ast C hP hS aM_24 h8 dX11_takesHeap_31 (fun H locs hP hS => ?_)
  rw [← eσ7] at hP
  refine lv_aload_n hx hb dX11_takesHeap_32 rfl (lv_at hl 0 rfl) ?_
  refine lv_iload_n hx hb dX11_takesHeap_33 rfl (lv_at hl 1 rfl) ?_
  refine lv_bipush (v := 64) hx hb dX11_takesHeap_34 (by decide) ?_
  refine lv_irem hx hb dX11_takesHeap_36 (by decide) ?_
  obtain ⟨r9, hc10, hf⟩ := cq_e hf
  refine r_cVi (n := 1) (As := [.int (a0 - a0 / 64 * 64)]) (rest := []) C (c_fX11_heapHeight hj σ7 H.size (a0 - a0 / 64 * 64) hc10) oM_0 rfl gv_RX11_290 (by decide +kernel) (rmD_le (by decide) (by decide)) rfl rfl (Nat.le_of_ble_eq_true rfl) dX11_takesHeap_37 hP hS hl.1 (fun H locs hP hS => ?_)
  refine lv_iload_n hx hb dX11_takesHeap_40 rfl (lv_at hl 1 rfl) ?_
  refine lv_bipush (v := 64) hx hb dX11_takesHeap_41 (by decide) ?_
  refine lv_idiv hx hb dX11_takesHeap_43 (by decide) ?_
  refine lv_iconst (v := 1) hx hb dX11_takesHeap_44 (by decide) ?_
  refine lv_iadd hx hb dX11_takesHeap_45 ?_
  refine lv_icmp_ne (tgt := 53) hx hb dX11_takesHeap_46 (by decide) (fun c11 => ?_) (fun c11 => ?_)
  · replace hf := it_f c11 hf
    refine lv_iconst (v := 0) hx hb dX11_takesHeap_53 (by decide) ?_
    exact b_fX11_takesHeap_54 C σ7 a0 0 hf H locs ls hP hS (lv_sub hl [0, 1] rfl)
  · replace hf := it_t c11 hf
    refine lv_iconst (v := 1) hx hb dX11_takesHeap_49 (by decide) ?_
    refine lv_goto (tgt := 54) hx hb dX11_takesHeap_50 (by decide) ?_
    exact b_fX11_takesHeap_54 C σ7 a0 1 hf H locs ls hP hS (lv_sub hl [0, 1] rfl)
def fX11_takesShip (σ : St) (a0 : Int32) (a1 : Int32) : Option St :=
(rdK 288 (σ 5) a0 fun v1 =>
(rdK 288 (σ 6) a0 fun v3 =>
(cv (fX11_takesHour σ v1 v3 (a0 - a0 / 6 * 6) a1) fun σ6 =>
(rdK 288 (σ6 7) a0 fun v7 =>
(wrK 16 σ6 24 7 v7 fun σ9 =>
(wrK 16 σ9 24 8 0 fun σ11 =>
some σ11))))))
set_option maxHeartbeats 4000000 in
theorem c_fX11_takesShip {E : Ev} {l : Launch} (hj : jW false E) (σ : St) (sz : Nat) (a0 : Int32) (a1 : Int32) {sr : St} (hf : fX11_takesShip σ a0 a1 = some sr) : Met l yX11_takesShip (Cond.code yX11_takesShip cX11_takesShip 3 none :: gT) (rmD 3) (va_Pc [.ref (ea E 0), .int a0, .int a1] (preW false E σ sz)) (QV false E sr sz) 0 0 (aW false E sz) := by
  refine r_entry (QV false E sr) hj (by decide) [.ref (ea E 0), .int a0, .int a1] (Nat.le_of_ble_eq_true rfl) (fun p e s m args below meth c C => ?_)
  intro H locs ls hP hS hl
  have hl : lv_has ls 3 [(0, .ref (ea E 0)), (1, .int a0), (2, .int a1)] := hl
  obtain ⟨hx, hb, hr, hml, hown, hts, hlocks, hK, hX, hj⟩ := id C
  unfold fX11_takesShip at hf
  refine lv_aload_n hx hb dX11_takesShip_0 rfl (lv_at hl 0 rfl) ?_
  refine lv_aload_n hx hb dX11_takesShip_1 rfl (lv_at hl 0 rfl) ?_
  refine r_get (k := 7) (v := .ref (ea E 5)) C hP oM_0 rfl iX11 (by decide) wm_t1024 rfl rfl dX11_takesShip_2 ?_
  refine lv_iload_n hx hb dX11_takesShip_5 rfl (lv_at hl 1 rfl) ?_
  have h2 := (rdK_e hf).1
  refine r_ald C hP aM_5 h2 dX11_takesShip_6 ?_
  refine lv_topi (fun v1 ev1 => ?_)
  replace hf := rdK_n ev1 hf
  refine lv_aload_n hx hb dX11_takesShip_7 rfl (lv_at hl 0 rfl) ?_
  refine r_get (k := 8) (v := .ref (ea E 6)) C hP oM_0 rfl iX11 (by decide) wm_t1025 rfl rfl dX11_takesShip_8 ?_
  refine lv_iload_n hx hb dX11_takesShip_11 rfl (lv_at hl 1 rfl) ?_
  have h4 := (rdK_e hf).1
  refine r_ald C hP aM_6 h4 dX11_takesShip_12 ?_
  refine lv_topi (fun v3 ev3 => ?_)
  replace hf := rdK_n ev3 hf
  refine lv_iload_n hx hb dX11_takesShip_13 rfl (lv_at hl 1 rfl) ?_
  refine lv_bipush (v := 6) hx hb dX11_takesShip_14 (by decide) ?_
  refine lv_irem hx hb dX11_takesShip_16 (by decide) ?_
  refine lv_iload_n hx hb dX11_takesShip_17 rfl (lv_at hl 2 rfl) ?_
  obtain ⟨σ6, hc5, hf⟩ := cv_e hf
  refine r_cVv (n := 4) (As := [.int v1, .int v3, .int (a0 - a0 / 6 * 6), .int a1]) (rest := []) C (c_fX11_takesHour hj σ H.size v1 v3 (a0 - a0 / 6 * 6) a1 hc5) oM_0 rfl gv_RX11_286 (by decide +kernel) (rmD_le (by decide) (by decide)) rfl rfl (Nat.le_of_ble_eq_true rfl) dX11_takesShip_18 hP hS hl.1 (fun H locs hP hS => ?_)
  refine lv_aload_n hx hb dX11_takesShip_21 rfl (lv_at hl 0 rfl) ?_
  refine r_get (k := 41) (v := .ref (ea E 24)) C hP oM_0 rfl iX11 (by decide) wm_t1058 rfl rfl dX11_takesShip_22 ?_
  refine lv_bipush (v := 7) hx hb dX11_takesShip_25 (by decide) ?_
  refine lv_aload_n hx hb dX11_takesShip_27 rfl (lv_at hl 0 rfl) ?_
  refine r_get (k := 9) (v := .ref (ea E 7)) C hP oM_0 rfl iX11 (by decide) wm_t1026 rfl rfl dX11_takesShip_28 ?_
  refine lv_iload_n hx hb dX11_takesShip_31 rfl (lv_at hl 1 rfl) ?_
  have h8 := (rdK_e hf).1
  refine r_ald C hP aM_7 h8 dX11_takesShip_32 ?_
  refine lv_topi (fun v7 ev7 => ?_)
  replace hf := rdK_n ev7 hf
  obtain ⟨h10, σ9, eσ9, hf⟩ := wrK_e hf
  refine r_ast C hP hS aM_24 h10 dX11_takesShip_33 (fun H locs hP hS => ?_)
  rw [← eσ9] at hP
  refine lv_aload_n hx hb dX11_takesShip_34 rfl (lv_at hl 0 rfl) ?_
  refine r_get (k := 41) (v := .ref (ea E 24)) C hP oM_0 rfl iX11 (by decide) wm_t1058 rfl rfl dX11_takesShip_35 ?_
  refine lv_bipush (v := 8) hx hb dX11_takesShip_38 (by decide) ?_
  refine lv_iconst (v := 0) hx hb dX11_takesShip_40 (by decide) ?_
  obtain ⟨h12, σ11, eσ11, hf⟩ := wrK_e hf
  refine r_ast C hP hS aM_24 h12 dX11_takesShip_41 (fun H locs hP hS => ?_)
  rw [← eσ11] at hP
  cases hf
  exact r_vret C hP hS dX11_takesShip_42
