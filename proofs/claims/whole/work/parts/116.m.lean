def fX11_split_134 (rec57 : St → Int32 → Int32 → Int32 → Int32 → Int32 → Int32 → Int32 → Option (Int32 × St)) (σ : St) (x1 : Int32) (x2 : Int32) (x5 : Int32) (x6 : Int32) (x7 : Int32) (x8 : Int32) (x9 : Int32) : Option (Int32 × St) :=
(wrK 4 σ 28 0 x5 fun σ1 =>
(wrK 4 σ1 28 1 x6 fun σ3 =>
(wrK 4 σ3 28 2 x7 fun σ5 =>
(wrK 4 σ5 28 3 x8 fun σ7 =>
rec57 σ7 x1 x2 x9 1 x5 x6 (x7 + 1)))))
set_option maxHeartbeats 4000000 in
theorem b_fX11_split_134 {E : Ev} {l : Launch} {p : Program} {e : Env} {s : State} {m : MethodId} {args : Array Value} {below : List Frame} {meth : Method} {c : Code} (C : CX false E RX11 cX11_split 10 (some .int) p s m args meth c) {rr : Int32} {sr : St} (rec57 : St → Int32 → Int32 → Int32 → Int32 → Int32 → Int32 → Int32 → Option (Int32 × St)) (hr57 : ∀ (σ : St) (x1 : Int32) (x2 : Int32) (x3 : Int32) (x4 : Int32) (x5 : Int32) (x6 : Int32) (x7 : Int32), rec57 σ x1 x2 x3 x4 x5 x6 x7 = some (rr, sr) → GW false l (rmD 3) E 10 p e s m args below meth c (MQ below (QI false E rr sr s.heap.size) args s 0 0 (aW false E s.heap.size)) σ 57 [(0, .ref (ea E 0)), (1, .int x1), (2, .int x2), (3, .int x3), (4, .int x4), (5, .int x5), (6, .int x6), (7, .int x7)] []) : ∀ (σ : St) (x1 : Int32) (x2 : Int32) (x5 : Int32) (x6 : Int32) (x7 : Int32) (x8 : Int32) (x9 : Int32), fX11_split_134 rec57 σ x1 x2 x5 x6 x7 x8 x9 = some (rr, sr) → GW false l (rmD 3) E 10 p e s m args below meth c (MQ below (QI false E rr sr s.heap.size) args s 0 0 (aW false E s.heap.size)) σ 134 [(0, .ref (ea E 0)), (1, .int x1), (2, .int x2), (5, .int x5), (6, .int x6), (7, .int x7), (8, .int x8), (9, .int x9)] [] := by
  intro σ x1 x2 x5 x6 x7 x8 x9 hf H locs ls hP hS hl
  obtain ⟨hx, hb, hr, hml, hown, hts, hlocks, hK, hX, hj⟩ := id C
  unfold fX11_split_134 at hf
  refine lv_iconst (v := 1) hx hb dX11_split_134 (by decide) ?_
  refine lv_istore (lv' := [(4, .int 1), (0, .ref (ea E 0)), (1, .int x1), (2, .int x2), (5, .int x5), (6, .int x6), (7, .int x7), (8, .int x8), (9, .int x9)]) hx hb dX11_split_135 hl (by decide) rfl (fun ls hl => ?_)
  refine lv_iload hx hb dX11_split_137 (lv_at hl 8 rfl) ?_
  refine lv_istore_n (lv' := [(3, .int x9), (4, .int 1), (0, .ref (ea E 0)), (1, .int x1), (2, .int x2), (5, .int x5), (6, .int x6), (7, .int x7), (8, .int x8), (9, .int x9)]) hx hb dX11_split_139 rfl hl (by decide) rfl (fun ls hl => ?_)
  refine lv_aload_n hx hb dX11_split_140 rfl (lv_at hl 2 rfl) ?_
  refine r_get (k := 46) (v := .ref (ea E 28)) C hP oM_0 rfl iX11 (by decide) wm_t1063 rfl rfl dX11_split_141 ?_
  refine lv_iconst (v := 0) hx hb dX11_split_144 (by decide) ?_
  refine lv_iload hx hb dX11_split_145 (lv_at hl 5 rfl) ?_
  obtain ⟨h2, σ1, eσ1, hf⟩ := wrK_e hf
  refine r_ast C hP hS aM_28 h2 dX11_split_147 (fun H locs hP hS => ?_)
  rw [← eσ1] at hP
  refine lv_aload_n hx hb dX11_split_148 rfl (lv_at hl 2 rfl) ?_
  refine r_get (k := 46) (v := .ref (ea E 28)) C hP oM_0 rfl iX11 (by decide) wm_t1063 rfl rfl dX11_split_149 ?_
  refine lv_iconst (v := 1) hx hb dX11_split_152 (by decide) ?_
  refine lv_iload hx hb dX11_split_153 (lv_at hl 6 rfl) ?_
  obtain ⟨h4, σ3, eσ3, hf⟩ := wrK_e hf
  refine r_ast C hP hS aM_28 h4 dX11_split_155 (fun H locs hP hS => ?_)
  rw [← eσ3] at hP
  refine lv_aload_n hx hb dX11_split_156 rfl (lv_at hl 2 rfl) ?_
  refine r_get (k := 46) (v := .ref (ea E 28)) C hP oM_0 rfl iX11 (by decide) wm_t1063 rfl rfl dX11_split_157 ?_
  refine lv_iconst (v := 2) hx hb dX11_split_160 (by decide) ?_
  refine lv_iload hx hb dX11_split_161 (lv_at hl 7 rfl) ?_
  obtain ⟨h6, σ5, eσ5, hf⟩ := wrK_e hf
  refine r_ast C hP hS aM_28 h6 dX11_split_163 (fun H locs hP hS => ?_)
  rw [← eσ5] at hP
  refine lv_aload_n hx hb dX11_split_164 rfl (lv_at hl 2 rfl) ?_
  refine r_get (k := 46) (v := .ref (ea E 28)) C hP oM_0 rfl iX11 (by decide) wm_t1063 rfl rfl dX11_split_165 ?_
  refine lv_iconst (v := 3) hx hb dX11_split_168 (by decide) ?_
  refine lv_iload hx hb dX11_split_169 (lv_at hl 8 rfl) ?_
  obtain ⟨h8, σ7, eσ7, hf⟩ := wrK_e hf
  refine r_ast C hP hS aM_28 h8 dX11_split_171 (fun H locs hP hS => ?_)
  rw [← eσ7] at hP
  refine lv_iinc (v := (x7 + 1)) (lv' := [(7, .int (x7 + 1)), (3, .int x9), (4, .int 1), (0, .ref (ea E 0)), (1, .int x1), (2, .int x2), (5, .int x5), (6, .int x6), (8, .int x8), (9, .int x9)]) hx hb dX11_split_172 hl (k := 7) rfl rfl (by decide) rfl (fun ls hl => ?_)
  refine lv_goto (tgt := 57) hx hb dX11_split_175 (by decide) ?_
  exact hr57 σ7 x1 x2 x9 1 x5 x6 (x7 + 1) hf H locs ls hP hS (lv_sub hl [3, 4, 5, 1, 2, 6, 7, 0] rfl)
def fX11_split_57B (rec47 : St → Int32 → Int32 → Int32 → Int32 → Int32 → Int32 → Option (Int32 × St)) (rec57 : St → Int32 → Int32 → Int32 → Int32 → Int32 → Int32 → Int32 → Option (Int32 × St)) (σ : St) (x1 : Int32) (x2 : Int32) (x3 : Int32) (x4 : Int32) (x5 : Int32) (x6 : Int32) (x7 : Int32) : Option (Int32 × St) :=
(if 36 < x7 then
rec47 σ x1 x2 x3 x4 x5 (x6 + 1)
else
(if (fX11_isIn (((x1 - x5) - x6) - x7) 0 36) = 0 then
rec57 σ x1 x2 x3 x4 x5 x6 (x7 + 1)
else
(cb (fX11_worstKept σ x5) fun r3 σ5 =>
(cb (fX11_worstKept σ5 x6) fun r6 σ8 =>
(cb (fX11_worstKept σ8 x7) fun r9 σ11 =>
(cb (fX11_worstKept σ11 (((x1 - x5) - x6) - x7)) fun r12 σ14 =>
(if x4 = 0 then
fX11_split_134 rec57 σ14 x1 x2 x5 x6 x7 (((x1 - x5) - x6) - x7) (((r3 + r6) + r9) + r12)
else
(if (((r3 + r6) + r9) + r12) < x3 then
fX11_split_134 rec57 σ14 x1 x2 x5 x6 x7 (((x1 - x5) - x6) - x7) (((r3 + r6) + r9) + r12)
else
rec57 σ14 x1 x2 x3 x4 x5 x6 (x7 + 1)))))))))
set_option maxHeartbeats 4000000 in
theorem b_fX11_split_57B {E : Ev} {l : Launch} {p : Program} {e : Env} {s : State} {m : MethodId} {args : Array Value} {below : List Frame} {meth : Method} {c : Code} (C : CX false E RX11 cX11_split 10 (some .int) p s m args meth c) {rr : Int32} {sr : St} (rec47 : St → Int32 → Int32 → Int32 → Int32 → Int32 → Int32 → Option (Int32 × St)) (hr47 : ∀ (σ : St) (x1 : Int32) (x2 : Int32) (x3 : Int32) (x4 : Int32) (x5 : Int32) (x6 : Int32), rec47 σ x1 x2 x3 x4 x5 x6 = some (rr, sr) → GW false l (rmD 3) E 10 p e s m args below meth c (MQ below (QI false E rr sr s.heap.size) args s 0 0 (aW false E s.heap.size)) σ 47 [(0, .ref (ea E 0)), (1, .int x1), (2, .int x2), (3, .int x3), (4, .int x4), (5, .int x5), (6, .int x6)] []) (rec57 : St → Int32 → Int32 → Int32 → Int32 → Int32 → Int32 → Int32 → Option (Int32 × St)) (hr57 : ∀ (σ : St) (x1 : Int32) (x2 : Int32) (x3 : Int32) (x4 : Int32) (x5 : Int32) (x6 : Int32) (x7 : Int32), rec57 σ x1 x2 x3 x4 x5 x6 x7 = some (rr, sr) → GW false l (rmD 3) E 10 p e s m args below meth c (MQ below (QI false E rr sr s.heap.size) args s 0 0 (aW false E s.heap.size)) σ 57 [(0, .ref (ea E 0)), (1, .int x1), (2, .int x2), (3, .int x3), (4, .int x4), (5, .int x5), (6, .int x6), (7, .int x7)] []) : ∀ (σ : St) (x1 : Int32) (x2 : Int32) (x3 : Int32) (x4 : Int32) (x5 : Int32) (x6 : Int32) (x7 : Int32), fX11_split_57B rec47 rec57 σ x1 x2 x3 x4 x5 x6 x7 = some (rr, sr) → GW false l (rmD 3) E 10 p e s m args below meth c (MQ below (QI false E rr sr s.heap.size) args s 0 0 (aW false E s.heap.size)) σ 57 [(0, .ref (ea E 0)), (1, .int x1), (2, .int x2), (3, .int x3), (4, .int x4), (5, .int x5), (6, .int x6), (7, .int x7)] [] := by
  intro σ x1 x2 x3 x4 x5 x6 x7 hf H locs ls hP hS hl
  obtain ⟨hx, hb, hr, hml, hown, hts, hlocks, hK, hX, hj⟩ := id C
  unfold fX11_split_57B at hf
  refine lv_iload hx hb dX11_split_57 (lv_at hl 7 rfl) ?_
  refine lv_bipush (v := 36) hx hb dX11_split_59 (by decide) ?_
  refine lv_icmp_gt (tgt := 178) hx hb dX11_split_61 (by decide) (fun c1 => ?_) (fun c1 => ?_)
  · replace hf := it_t c1 hf
    refine lv_iinc (v := (x6 + 1)) (lv' := [(6, .int (x6 + 1)), (0, .ref (ea E 0)), (1, .int x1), (2, .int x2), (3, .int x3), (4, .int x4), (5, .int x5), (7, .int x7)]) hx hb dX11_split_178 hl (k := 6) rfl rfl (by decide) rfl (fun ls hl => ?_)
    refine lv_goto (tgt := 47) hx hb dX11_split_181 (by decide) ?_
    exact hr47 σ x1 x2 x3 x4 x5 (x6 + 1) hf H locs ls hP hS (lv_sub hl [1, 2, 3, 4, 5, 6, 0] rfl)
  · replace hf := it_f c1 hf
    refine lv_iload_n hx hb dX11_split_64 rfl (lv_at hl 1 rfl) ?_
    refine lv_iload hx hb dX11_split_65 (lv_at hl 5 rfl) ?_
    refine lv_isub hx hb dX11_split_67 ?_
    refine lv_iload hx hb dX11_split_68 (lv_at hl 6 rfl) ?_
    refine lv_isub hx hb dX11_split_70 ?_
    refine lv_iload hx hb dX11_split_71 (lv_at hl 7 rfl) ?_
    refine lv_isub hx hb dX11_split_73 ?_
    refine lv_istore (lv' := [(8, .int (((x1 - x5) - x6) - x7)), (0, .ref (ea E 0)), (1, .int x1), (2, .int x2), (3, .int x3), (4, .int x4), (5, .int x5), (6, .int x6), (7, .int x7)]) hx hb dX11_split_74 hl (by decide) rfl (fun ls hl => ?_)
    refine lv_aload_n hx hb dX11_split_76 rfl (lv_at hl 1 rfl) ?_
    refine lv_iload hx hb dX11_split_77 (lv_at hl 0 rfl) ?_
    refine lv_iconst (v := 0) hx hb dX11_split_79 (by decide) ?_
    refine lv_bipush (v := 36) hx hb dX11_split_80 (by decide) ?_
    refine r_cVi (n := 3) (As := [.int (((x1 - x5) - x6) - x7), .int 0, .int 36]) (rest := []) C (c_fX11_isIn hj σ H.size (((x1 - x5) - x6) - x7) 0 36) oM_0 rfl gv_RX11_144 (by decide +kernel) (rmD_le (by decide) (by decide)) rfl rfl (Nat.le_of_ble_eq_true rfl) dX11_split_82 hP hS hl.1 (fun H locs hP hS => ?_)
    refine lv_if_ne (tgt := 91) hx hb dX11_split_85 (by decide) (fun c2 => ?_) (fun c2 => ?_)
    · replace hf := it_f c2 hf
      refine lv_aload_n hx hb dX11_split_91 rfl (lv_at hl 1 rfl) ?_
      refine lv_iload hx hb dX11_split_92 (lv_at hl 6 rfl) ?_
      obtain ⟨r3, σ5, hc4, hf⟩ := cb_e hf
      refine r_cVi (n := 1) (As := [.int x5]) (rest := []) C (c_fX11_worstKept hj σ H.size x5 hc4) oM_0 rfl gv_RX11_356 (by decide +kernel) (rmD_le (by decide) (by decide)) rfl rfl (Nat.le_of_ble_eq_true rfl) dX11_split_94 hP hS hl.1 (fun H locs hP hS => ?_)
      refine lv_aload_n hx hb dX11_split_97 rfl (lv_at hl 1 rfl) ?_
      refine lv_iload hx hb dX11_split_98 (lv_at hl 7 rfl) ?_
      obtain ⟨r6, σ8, hc7, hf⟩ := cb_e hf
      refine r_cVi (n := 1) (As := [.int x6]) (rest := [.int r3]) C (c_fX11_worstKept hj σ5 H.size x6 hc7) oM_0 rfl gv_RX11_356 (by decide +kernel) (rmD_le (by decide) (by decide)) rfl rfl (Nat.le_of_ble_eq_true rfl) dX11_split_100 hP hS hl.1 (fun H locs hP hS => ?_)
      refine lv_iadd hx hb dX11_split_103 ?_
      refine lv_aload_n hx hb dX11_split_104 rfl (lv_at hl 1 rfl) ?_
      refine lv_iload hx hb dX11_split_105 (lv_at hl 8 rfl) ?_
      obtain ⟨r9, σ11, hc10, hf⟩ := cb_e hf
      refine r_cVi (n := 1) (As := [.int x7]) (rest := [.int (r3 + r6)]) C (c_fX11_worstKept hj σ8 H.size x7 hc10) oM_0 rfl gv_RX11_356 (by decide +kernel) (rmD_le (by decide) (by decide)) rfl rfl (Nat.le_of_ble_eq_true rfl) dX11_split_107 hP hS hl.1 (fun H locs hP hS => ?_)
      refine lv_iadd hx hb dX11_split_110 ?_
      refine lv_aload_n hx hb dX11_split_111 rfl (lv_at hl 1 rfl) ?_
      refine lv_iload hx hb dX11_split_112 (lv_at hl 0 rfl) ?_
      obtain ⟨r12, σ14, hc13, hf⟩ := cb_e hf
      refine r_cVi (n := 1) (As := [.int (((x1 - x5) - x6) - x7)]) (rest := [.int ((r3 + r6) + r9)]) C (c_fX11_worstKept hj σ11 H.size (((x1 - x5) - x6) - x7) hc13) oM_0 rfl gv_RX11_356 (by decide +kernel) (rmD_le (by decide) (by decide)) rfl rfl (Nat.le_of_ble_eq_true rfl) dX11_split_114 hP hS hl.1 (fun H locs hP hS => ?_)
      refine lv_iadd hx hb dX11_split_117 ?_
      refine lv_istore (lv' := [(9, .int (((r3 + r6) + r9) + r12)), (8, .int (((x1 - x5) - x6) - x7)), (0, .ref (ea E 0)), (1, .int x1), (2, .int x2), (3, .int x3), (4, .int x4), (5, .int x5), (6, .int x6), (7, .int x7)]) hx hb dX11_split_118 hl (by decide) rfl (fun ls hl => ?_)
      refine lv_iload hx hb dX11_split_120 (lv_at hl 6 rfl) ?_
      refine lv_if_eq (tgt := 134) hx hb dX11_split_122 (by decide) (fun c15 => ?_) (fun c15 => ?_)
      · replace hf := it_t c15 hf
        exact b_fX11_split_134 C rec57 hr57 σ14 x1 x2 x5 x6 x7 (((x1 - x5) - x6) - x7) (((r3 + r6) + r9) + r12) hf H locs ls hP hS (lv_sub hl [2, 3, 4, 7, 8, 9, 1, 0] rfl)
      · replace hf := it_f c15 hf
        refine lv_iload hx hb dX11_split_125 (lv_at hl 0 rfl) ?_
        refine lv_iload_n hx hb dX11_split_127 rfl (lv_at hl 5 rfl) ?_
        refine lv_icmp_lt (tgt := 134) hx hb dX11_split_128 (by decide) (fun c16 => ?_) (fun c16 => ?_)
        · replace hf := it_t c16 hf
          exact b_fX11_split_134 C rec57 hr57 σ14 x1 x2 x5 x6 x7 (((x1 - x5) - x6) - x7) (((r3 + r6) + r9) + r12) hf H locs ls hP hS (lv_sub hl [2, 3, 4, 7, 8, 9, 1, 0] rfl)
        · replace hf := it_f c16 hf
          refine lv_goto (tgt := 172) hx hb dX11_split_131 (by decide) ?_
          refine lv_iinc (v := (x7 + 1)) (lv' := [(7, .int (x7 + 1)), (9, .int (((r3 + r6) + r9) + r12)), (8, .int (((x1 - x5) - x6) - x7)), (0, .ref (ea E 0)), (1, .int x1), (2, .int x2), (3, .int x3), (4, .int x4), (5, .int x5), (6, .int x6)]) hx hb dX11_split_172 hl (k := 9) rfl rfl (by decide) rfl (fun ls hl => ?_)
          refine lv_goto (tgt := 57) hx hb dX11_split_175 (by decide) ?_
          exact hr57 σ14 x1 x2 x3 x4 x5 x6 (x7 + 1) hf H locs ls hP hS (lv_sub hl [3, 4, 5, 6, 7, 8, 9, 0] rfl)
    · replace hf := it_t c2 hf
      refine lv_goto (tgt := 172) hx hb dX11_split_88 (by decide) ?_
      refine lv_iinc (v := (x7 + 1)) (lv' := [(7, .int (x7 + 1)), (8, .int (((x1 - x5) - x6) - x7)), (0, .ref (ea E 0)), (1, .int x1), (2, .int x2), (3, .int x3), (4, .int x4), (5, .int x5), (6, .int x6)]) hx hb dX11_split_172 hl (k := 8) rfl rfl (by decide) rfl (fun ls hl => ?_)
      refine lv_goto (tgt := 57) hx hb dX11_split_175 (by decide) ?_
      exact hr57 σ x1 x2 x3 x4 x5 x6 (x7 + 1) hf H locs ls hP hS (lv_sub hl [2, 3, 4, 5, 6, 7, 8, 0] rfl)
def fX11_split_57 (rec47 : St → Int32 → Int32 → Int32 → Int32 → Int32 → Int32 → Option (Int32 × St)) : Nat → St → Int32 → Int32 → Int32 → Int32 → Int32 → Int32 → Int32 → Option (Int32 × St)
  | 0 => fun _ _ _ _ _ _ _ _ => none
  | n + 1 => fun σ x1 x2 x3 x4 x5 x6 x7 => fX11_split_57B rec47 (fX11_split_57 rec47 n) σ x1 x2 x3 x4 x5 x6 x7
theorem b_fX11_split_57 {E : Ev} {l : Launch} {p : Program} {e : Env} {s : State} {m : MethodId} {args : Array Value} {below : List Frame} {meth : Method} {c : Code} (C : CX false E RX11 cX11_split 10 (some .int) p s m args meth c) {rr : Int32} {sr : St} (rec47 : St → Int32 → Int32 → Int32 → Int32 → Int32 → Int32 → Option (Int32 × St)) (hr47 : ∀ (σ : St) (x1 : Int32) (x2 : Int32) (x3 : Int32) (x4 : Int32) (x5 : Int32) (x6 : Int32), rec47 σ x1 x2 x3 x4 x5 x6 = some (rr, sr) → GW false l (rmD 3) E 10 p e s m args below meth c (MQ below (QI false E rr sr s.heap.size) args s 0 0 (aW false E s.heap.size)) σ 47 [(0, .ref (ea E 0)), (1, .int x1), (2, .int x2), (3, .int x3), (4, .int x4), (5, .int x5), (6, .int x6)] []) : ∀ (n : Nat) (σ : St) (x1 : Int32) (x2 : Int32) (x3 : Int32) (x4 : Int32) (x5 : Int32) (x6 : Int32) (x7 : Int32), fX11_split_57 rec47 n σ x1 x2 x3 x4 x5 x6 x7 = some (rr, sr) → GW false l (rmD 3) E 10 p e s m args below meth c (MQ below (QI false E rr sr s.heap.size) args s 0 0 (aW false E s.heap.size)) σ 57 [(0, .ref (ea E 0)), (1, .int x1), (2, .int x2), (3, .int x3), (4, .int x4), (5, .int x5), (6, .int x6), (7, .int x7)] [] := by
  intro n
  induction n with
  | zero => intro σ x1 x2 x3 x4 x5 x6 x7 hf; have hf : (none : Option _) = some _ := hf; cases hf
  | succ n ih => intro σ x1 x2 x3 x4 x5 x6 x7 hf; exact b_fX11_split_57B C rec47 hr47 (fX11_split_57 rec47 n) ih σ x1 x2 x3 x4 x5 x6 x7 hf
def fX11_split_47B (rec37 : St → Int32 → Int32 → Int32 → Int32 → Int32 → Option (Int32 × St)) (rec47 : St → Int32 → Int32 → Int32 → Int32 → Int32 → Int32 → Option (Int32 × St)) (σ : St) (x1 : Int32) (x2 : Int32) (x3 : Int32) (x4 : Int32) (x5 : Int32) (x6 : Int32) : Option (Int32 × St) :=
(if 36 < x6 then
rec37 σ x1 x2 x3 x4 (x5 + 1)
else
fX11_split_57 rec47 FU σ x1 x2 x3 x4 x5 x6 0)
set_option maxHeartbeats 4000000 in
theorem b_fX11_split_47B {E : Ev} {l : Launch} {p : Program} {e : Env} {s : State} {m : MethodId} {args : Array Value} {below : List Frame} {meth : Method} {c : Code} (C : CX false E RX11 cX11_split 10 (some .int) p s m args meth c) {rr : Int32} {sr : St} (rec37 : St → Int32 → Int32 → Int32 → Int32 → Int32 → Option (Int32 × St)) (hr37 : ∀ (σ : St) (x1 : Int32) (x2 : Int32) (x3 : Int32) (x4 : Int32) (x5 : Int32), rec37 σ x1 x2 x3 x4 x5 = some (rr, sr) → GW false l (rmD 3) E 10 p e s m args below meth c (MQ below (QI false E rr sr s.heap.size) args s 0 0 (aW false E s.heap.size)) σ 37 [(0, .ref (ea E 0)), (1, .int x1), (2, .int x2), (3, .int x3), (4, .int x4), (5, .int x5)] []) (rec47 : St → Int32 → Int32 → Int32 → Int32 → Int32 → Int32 → Option (Int32 × St)) (hr47 : ∀ (σ : St) (x1 : Int32) (x2 : Int32) (x3 : Int32) (x4 : Int32) (x5 : Int32) (x6 : Int32), rec47 σ x1 x2 x3 x4 x5 x6 = some (rr, sr) → GW false l (rmD 3) E 10 p e s m args below meth c (MQ below (QI false E rr sr s.heap.size) args s 0 0 (aW false E s.heap.size)) σ 47 [(0, .ref (ea E 0)), (1, .int x1), (2, .int x2), (3, .int x3), (4, .int x4), (5, .int x5), (6, .int x6)] []) : ∀ (σ : St) (x1 : Int32) (x2 : Int32) (x3 : Int32) (x4 : Int32) (x5 : Int32) (x6 : Int32), fX11_split_47B rec37 rec47 σ x1 x2 x3 x4 x5 x6 = some (rr, sr) → GW false l (rmD 3) E 10 p e s m args below meth c (MQ below (QI false E rr sr s.heap.size) args s 0 0 (aW false E s.heap.size)) σ 47 [(0, .ref (ea E 0)), (1, .int x1), (2, .int x2), (3, .int x3), (4, .int x4), (5, .int x5), (6, .int x6)] [] := by
  intro σ x1 x2 x3 x4 x5 x6 hf H locs ls hP hS hl
  obtain ⟨hx, hb, hr, hml, hown, hts, hlocks, hK, hX, hj⟩ := id C
  unfold fX11_split_47B at hf
  refine lv_iload hx hb dX11_split_47 (lv_at hl 6 rfl) ?_
  refine lv_bipush (v := 36) hx hb dX11_split_49 (by decide) ?_
  refine lv_icmp_gt (tgt := 184) hx hb dX11_split_51 (by decide) (fun c1 => ?_) (fun c1 => ?_)
  · replace hf := it_t c1 hf
    refine lv_iinc (v := (x5 + 1)) (lv' := [(5, .int (x5 + 1)), (0, .ref (ea E 0)), (1, .int x1), (2, .int x2), (3, .int x3), (4, .int x4), (6, .int x6)]) hx hb dX11_split_184 hl (k := 5) rfl rfl (by decide) rfl (fun ls hl => ?_)
    refine lv_goto (tgt := 37) hx hb dX11_split_187 (by decide) ?_
    exact hr37 σ x1 x2 x3 x4 (x5 + 1) hf H locs ls hP hS (lv_sub hl [1, 2, 3, 4, 5, 0] rfl)
  · replace hf := it_f c1 hf
    refine lv_iconst (v := 0) hx hb dX11_split_54 (by decide) ?_
    refine lv_istore (lv' := [(7, .int 0), (0, .ref (ea E 0)), (1, .int x1), (2, .int x2), (3, .int x3), (4, .int x4), (5, .int x5), (6, .int x6)]) hx hb dX11_split_55 hl (by decide) rfl (fun ls hl => ?_)
    exact b_fX11_split_57 C rec47 hr47 FU σ x1 x2 x3 x4 x5 x6 0 hf H locs ls hP hS (lv_sub hl [1, 2, 3, 4, 5, 6, 7, 0] rfl)
def fX11_split_47 (rec37 : St → Int32 → Int32 → Int32 → Int32 → Int32 → Option (Int32 × St)) : Nat → St → Int32 → Int32 → Int32 → Int32 → Int32 → Int32 → Option (Int32 × St)
  | 0 => fun _ _ _ _ _ _ _ => none
  | n + 1 => fun σ x1 x2 x3 x4 x5 x6 => fX11_split_47B rec37 (fX11_split_47 rec37 n) σ x1 x2 x3 x4 x5 x6
theorem b_fX11_split_47 {E : Ev} {l : Launch} {p : Program} {e : Env} {s : State} {m : MethodId} {args : Array Value} {below : List Frame} {meth : Method} {c : Code} (C : CX false E RX11 cX11_split 10 (some .int) p s m args meth c) {rr : Int32} {sr : St} (rec37 : St → Int32 → Int32 → Int32 → Int32 → Int32 → Option (Int32 × St)) (hr37 : ∀ (σ : St) (x1 : Int32) (x2 : Int32) (x3 : Int32) (x4 : Int32) (x5 : Int32), rec37 σ x1 x2 x3 x4 x5 = some (rr, sr) → GW false l (rmD 3) E 10 p e s m args below meth c (MQ below (QI false E rr sr s.heap.size) args s 0 0 (aW false E s.heap.size)) σ 37 [(0, .ref (ea E 0)), (1, .int x1), (2, .int x2), (3, .int x3), (4, .int x4), (5, .int x5)] []) : ∀ (n : Nat) (σ : St) (x1 : Int32) (x2 : Int32) (x3 : Int32) (x4 : Int32) (x5 : Int32) (x6 : Int32), fX11_split_47 rec37 n σ x1 x2 x3 x4 x5 x6 = some (rr, sr) → GW false l (rmD 3) E 10 p e s m args below meth c (MQ below (QI false E rr sr s.heap.size) args s 0 0 (aW false E s.heap.size)) σ 47 [(0, .ref (ea E 0)), (1, .int x1), (2, .int x2), (3, .int x3), (4, .int x4), (5, .int x5), (6, .int x6)] [] := by
  intro n
  induction n with
  | zero => intro σ x1 x2 x3 x4 x5 x6 hf; have hf : (none : Option _) = some _ := hf; cases hf
  | succ n ih => intro σ x1 x2 x3 x4 x5 x6 hf; exact b_fX11_split_47B C rec37 hr37 (fX11_split_47 rec37 n) ih σ x1 x2 x3 x4 x5 x6 hf
def fX11_split_37B (rec37 : St → Int32 → Int32 → Int32 → Int32 → Int32 → Option (Int32 × St)) (σ : St) (x1 : Int32) (x2 : Int32) (x3 : Int32) (x4 : Int32) (x5 : Int32) : Option (Int32 × St) :=
(if 36 < x5 then
(if x2 = 0 then
some (x3, σ)
else
(rdK 4 (σ 28) (x2 - 1) fun v3 =>
some (v3, σ)))
else
fX11_split_47 rec37 FU σ x1 x2 x3 x4 x5 0)
set_option maxHeartbeats 4000000 in
theorem b_fX11_split_37B {E : Ev} {l : Launch} {p : Program} {e : Env} {s : State} {m : MethodId} {args : Array Value} {below : List Frame} {meth : Method} {c : Code} (C : CX false E RX11 cX11_split 10 (some .int) p s m args meth c) {rr : Int32} {sr : St} (rec37 : St → Int32 → Int32 → Int32 → Int32 → Int32 → Option (Int32 × St)) (hr37 : ∀ (σ : St) (x1 : Int32) (x2 : Int32) (x3 : Int32) (x4 : Int32) (x5 : Int32), rec37 σ x1 x2 x3 x4 x5 = some (rr, sr) → GW false l (rmD 3) E 10 p e s m args below meth c (MQ below (QI false E rr sr s.heap.size) args s 0 0 (aW false E s.heap.size)) σ 37 [(0, .ref (ea E 0)), (1, .int x1), (2, .int x2), (3, .int x3), (4, .int x4), (5, .int x5)] []) : ∀ (σ : St) (x1 : Int32) (x2 : Int32) (x3 : Int32) (x4 : Int32) (x5 : Int32), fX11_split_37B rec37 σ x1 x2 x3 x4 x5 = some (rr, sr) → GW false l (rmD 3) E 10 p e s m args below meth c (MQ below (QI false E rr sr s.heap.size) args s 0 0 (aW false E s.heap.size)) σ 37 [(0, .ref (ea E 0)), (1, .int x1), (2, .int x2), (3, .int x3), (4, .int x4), (5, .int x5)] [] := by
  intro σ x1 x2 x3 x4 x5 hf H locs ls hP hS hl
  obtain ⟨hx, hb, hr, hml, hown, hts, hlocks, hK, hX, hj⟩ := id C
  unfold fX11_split_37B at hf
  refine lv_iload hx hb dX11_split_37 (lv_at hl 5 rfl) ?_
  refine lv_bipush (v := 36) hx hb dX11_split_39 (by decide) ?_
  refine lv_icmp_gt (tgt := 190) hx hb dX11_split_41 (by decide) (fun c1 => ?_) (fun c1 => ?_)
  · replace hf := it_t c1 hf
    refine lv_iload_n hx hb dX11_split_190 rfl (lv_at hl 2 rfl) ?_
    refine lv_if_ne (tgt := 198) hx hb dX11_split_191 (by decide) (fun c2 => ?_) (fun c2 => ?_)
    · replace hf := it_f c2 hf
      refine lv_aload_n hx hb dX11_split_198 rfl (lv_at hl 0 rfl) ?_
      refine r_get (k := 46) (v := .ref (ea E 28)) C hP oM_0 rfl iX11 (by decide) wm_t1063 rfl rfl dX11_split_199 ?_
      refine lv_iload_n hx hb dX11_split_202 rfl (lv_at hl 2 rfl) ?_
      refine lv_iconst (v := 1) hx hb dX11_split_203 (by decide) ?_
      refine lv_isub hx hb dX11_split_204 ?_
      have h4 := (rdK_e hf).1
      refine r_ald C hP aM_28 h4 dX11_split_205 ?_
      refine lv_topi (fun v3 ev3 => ?_)
      replace hf := rdK_n ev3 hf
      cases hf
      exact r_iret C hP hS dX11_split_206
    · replace hf := it_t c2 hf
      refine lv_iload_n hx hb dX11_split_194 rfl (lv_at hl 3 rfl) ?_
      refine lv_goto (tgt := 206) hx hb dX11_split_195 (by decide) ?_
      cases hf
      exact r_iret C hP hS dX11_split_206
  · replace hf := it_f c1 hf
    refine lv_iconst (v := 0) hx hb dX11_split_44 (by decide) ?_
    refine lv_istore (lv' := [(6, .int 0), (0, .ref (ea E 0)), (1, .int x1), (2, .int x2), (3, .int x3), (4, .int x4), (5, .int x5)]) hx hb dX11_split_45 hl (by decide) rfl (fun ls hl => ?_)
    exact b_fX11_split_47 C rec37 hr37 FU σ x1 x2 x3 x4 x5 0 hf H locs ls hP hS (lv_sub hl [1, 2, 3, 4, 5, 6, 0] rfl)
def fX11_split_37 : Nat → St → Int32 → Int32 → Int32 → Int32 → Int32 → Option (Int32 × St)
  | 0 => fun _ _ _ _ _ _ => none
  | n + 1 => fun σ x1 x2 x3 x4 x5 => fX11_split_37B (fX11_split_37 n) σ x1 x2 x3 x4 x5
theorem b_fX11_split_37 {E : Ev} {l : Launch} {p : Program} {e : Env} {s : State} {m : MethodId} {args : Array Value} {below : List Frame} {meth : Method} {c : Code} (C : CX false E RX11 cX11_split 10 (some .int) p s m args meth c) {rr : Int32} {sr : St} : ∀ (n : Nat) (σ : St) (x1 : Int32) (x2 : Int32) (x3 : Int32) (x4 : Int32) (x5 : Int32), fX11_split_37 n σ x1 x2 x3 x4 x5 = some (rr, sr) → GW false l (rmD 3) E 10 p e s m args below meth c (MQ below (QI false E rr sr s.heap.size) args s 0 0 (aW false E s.heap.size)) σ 37 [(0, .ref (ea E 0)), (1, .int x1), (2, .int x2), (3, .int x3), (4, .int x4), (5, .int x5)] [] := by
  intro n
  induction n with
  | zero => intro σ x1 x2 x3 x4 x5 hf; have hf : (none : Option _) = some _ := hf; cases hf
  | succ n ih => intro σ x1 x2 x3 x4 x5 hf; exact b_fX11_split_37B C (fX11_split_37 n) ih σ x1 x2 x3 x4 x5 hf
def fX11_split (σ : St) (a0 : Int32) (a1 : Int32) : Option (Int32 × St) :=
(nmS (st_put σ 0 0 0) fun σ1 =>
(if (fX11_isIn a0 0 144) = 0 then
some ((-1), σ1)
else
(if (fX11_isIn a1 0 4) = 0 then
some ((-1), σ1)
else
fX11_split_37 FU σ1 a0 a1 (-1) 0 0)))
set_option maxHeartbeats 4000000 in
theorem c_fX11_split {E : Ev} {l : Launch} (hj : jW false E) (σ : St) (sz : Nat) (a0 : Int32) (a1 : Int32) {rr : Int32} {sr : St} (hf : fX11_split σ a0 a1 = some (rr, sr)) : Met l yX11_split (Cond.code yX11_split cX11_split 10 (some .int) :: gT) (rmD 3) (va_Pc [.ref (ea E 0), .int a0, .int a1] (preW false E σ sz)) (QI false E rr sr sz) 0 0 (aW false E sz) := by
  refine r_entry (QI false E rr sr) hj (by decide) [.ref (ea E 0), .int a0, .int a1] (Nat.le_of_ble_eq_true rfl) (fun p e s m args below meth c C => ?_)
  intro H locs ls hP hS hl
  have hl : lv_has ls 10 [(0, .ref (ea E 0)), (1, .int a0), (2, .int a1)] := hl
  obtain ⟨hx, hb, hr, hml, hown, hts, hlocks, hK, hX, hj⟩ := id C
  unfold fX11_split at hf
  refine lv_aload_n hx hb dX11_split_0 rfl (lv_at hl 0 rfl) ?_
  refine lv_iconst (v := 0) hx hb dX11_split_1 (by decide) ?_
  refine r_put (k := 0) (x := 0) C hP hS tyX11 tyX11_ok nmX11 oM_0 rfl iX11 (by decide) wm_t1017 rfl rfl sM_0_0 rfl rfl (Nat.le_of_ble_eq_true rfl) dX11_split_2 (fun H locs hP hS => ?_)
  obtain ⟨σ1, eσ1, hf⟩ := nmS_e hf
  rw [← eσ1] at hP
  refine lv_aload_n hx hb dX11_split_5 rfl (lv_at hl 0 rfl) ?_
  refine lv_iload_n hx hb dX11_split_6 rfl (lv_at hl 1 rfl) ?_
  refine lv_iconst (v := 0) hx hb dX11_split_7 (by decide) ?_
  refine lv_sipush (v := 144) hx hb dX11_split_8 (by decide) ?_
  refine r_cVi (n := 3) (As := [.int a0, .int 0, .int 144]) (rest := []) C (c_fX11_isIn hj σ1 H.size a0 0 144) oM_0 rfl gv_RX11_144 (by decide +kernel) (rmD_le (by decide) (by decide)) rfl rfl (Nat.le_of_ble_eq_true rfl) dX11_split_11 hP hS hl.1 (fun H locs hP hS => ?_)
  refine lv_if_eq (tgt := 27) hx hb dX11_split_14 (by decide) (fun c2 => ?_) (fun c2 => ?_)
  · replace hf := it_t c2 hf
    refine lv_iconst (v := (-1)) hx hb dX11_split_27 (by decide) ?_
    cases hf
    exact r_iret C hP hS dX11_split_28
  · replace hf := it_f c2 hf
    refine lv_aload_n hx hb dX11_split_17 rfl (lv_at hl 0 rfl) ?_
    refine lv_iload_n hx hb dX11_split_18 rfl (lv_at hl 2 rfl) ?_
    refine lv_iconst (v := 0) hx hb dX11_split_19 (by decide) ?_
    refine lv_iconst (v := 4) hx hb dX11_split_20 (by decide) ?_
    refine r_cVi (n := 3) (As := [.int a1, .int 0, .int 4]) (rest := []) C (c_fX11_isIn hj σ1 H.size a1 0 4) oM_0 rfl gv_RX11_144 (by decide +kernel) (rmD_le (by decide) (by decide)) rfl rfl (Nat.le_of_ble_eq_true rfl) dX11_split_21 hP hS hl.1 (fun H locs hP hS => ?_)
    refine lv_if_ne (tgt := 29) hx hb dX11_split_24 (by decide) (fun c3 => ?_) (fun c3 => ?_)
    · replace hf := it_f c3 hf
      refine lv_iconst (v := (-1)) hx hb dX11_split_29 (by decide) ?_
      refine lv_istore_n (lv' := [(3, .int (-1)), (0, .ref (ea E 0)), (1, .int a0), (2, .int a1)]) hx hb dX11_split_30 rfl hl (by decide) rfl (fun ls hl => ?_)
      refine lv_iconst (v := 0) hx hb dX11_split_31 (by decide) ?_
      refine lv_istore (lv' := [(4, .int 0), (3, .int (-1)), (0, .ref (ea E 0)), (1, .int a0), (2, .int a1)]) hx hb dX11_split_32 hl (by decide) rfl (fun ls hl => ?_)
      refine lv_iconst (v := 0) hx hb dX11_split_34 (by decide) ?_
      refine lv_istore (lv' := [(5, .int 0), (4, .int 0), (3, .int (-1)), (0, .ref (ea E 0)), (1, .int a0), (2, .int a1)]) hx hb dX11_split_35 hl (by decide) rfl (fun ls hl => ?_)
      exact b_fX11_split_37 C FU σ1 a0 a1 (-1) 0 0 hf H locs ls hP hS (lv_sub hl [3, 4, 5, 2, 1, 0] rfl)
    · replace hf := it_t c3 hf
      refine lv_iconst (v := (-1)) hx hb dX11_split_27 (by decide) ?_
      cases hf
      exact r_iret C hP hS dX11_split_28
def fX1_someLine_2B (rec2 : St → Int32 → Int32 → Int32 → Option (Int32 × St)) (σ : St) (x1 : Int32) (x2 : Int32) (x3 : Int32) : Option (Int32 × St) :=
(gw (σ 30 0) fun w1 =>
(if (σ w1 0) ≤ x3 then
some (0, σ)
else
(gw (σ 30 0) fun w3 =>
(cq (fX9_isOf w3 σ x3 x1) fun r4 =>
(if r4 = 0 then
rec2 σ x1 x2 (x3 + 1)
else
(gw (σ 30 0) fun w7 =>
(cq (fX9_isFor w7 σ x3 x2) fun r8 =>
(if r8 = 0 then
rec2 σ x1 x2 (x3 + 1)
else
(gw (σ 30 0) fun w11 =>
(cb (fX9_isSo w11 33 σ x3) fun r12 σ14 =>
(if r12 = 0 then
rec2 σ14 x1 x2 (x3 + 1)
else
some (1, σ14))))))))))))
set_option maxHeartbeats 4000000 in
theorem b_fX1_someLine_2B {E : Ev} {l : Launch} {p : Program} {e : Env} {s : State} {m : MethodId} {args : Array Value} {below : List Frame} {meth : Method} {c : Code} (C : CX true E RX1 cX1_someLine 4 (some .boolean) p s m args meth c) {rr : Int32} {sr : St} (rec2 : St → Int32 → Int32 → Int32 → Option (Int32 × St)) (hr2 : ∀ (σ : St) (x1 : Int32) (x2 : Int32) (x3 : Int32), rec2 σ x1 x2 x3 = some (rr, sr) → GW true l (rmD 3) E 4 p e s m args below meth c (MQ below (QI true E rr sr s.heap.size) args s 0 0 (aW true E s.heap.size)) σ 2 [(0, .ref (ea E 30)), (1, .int x1), (2, .int x2), (3, .int x3)] []) : ∀ (σ : St) (x1 : Int32) (x2 : Int32) (x3 : Int32), fX1_someLine_2B rec2 σ x1 x2 x3 = some (rr, sr) → GW true l (rmD 3) E 4 p e s m args below meth c (MQ below (QI true E rr sr s.heap.size) args s 0 0 (aW true E s.heap.size)) σ 2 [(0, .ref (ea E 30)), (1, .int x1), (2, .int x2), (3, .int x3)] [] := by
  intro σ x1 x2 x3 hf H locs ls hP hS hl
  obtain ⟨hx, hb, hr, hml, hown, hts, hlocks, hK, hX, hj⟩ := id C
  unfold fX1_someLine_2B at hf
  refine lv_iload_n hx hb dX1_someLine_2 rfl (lv_at hl 3 rfl) ?_
  refine lv_aload_n hx hb dX1_someLine_3 rfl (lv_at hl 0 rfl) ?_
  refine r_get (k := 0) (v := .ref (ea E (σ 30 0).toNatClampNeg)) C hP oC_30 rfl iX1 (by decide) wm_t223 rfl rfl dX1_someLine_4 ?_
  obtain ⟨w1, ew1, hw1, hf⟩ := gw_e hf
  rw [ew1]
  refine r_get (k := 0) (v := .int (σ w1 0)) C hP (oW hw1) rfl iX9 (by decide) wm_t134 rfl rfl dX1_someLine_7 ?_
  refine lv_icmp_ge (tgt := 60) hx hb dX1_someLine_10 (by decide) (fun c2 => ?_) (fun c2 => ?_)
  · replace hf := it_t c2 hf
    refine lv_iconst (v := 0) hx hb dX1_someLine_60 (by decide) ?_
    cases hf
    exact r_zret C rfl hP hS dX1_someLine_61
  · replace hf := it_f c2 hf
    refine lv_aload_n hx hb dX1_someLine_13 rfl (lv_at hl 0 rfl) ?_
    refine r_get (k := 0) (v := .ref (ea E (σ 30 0).toNatClampNeg)) C hP oC_30 rfl iX1 (by decide) wm_t223 rfl rfl dX1_someLine_14 ?_
    obtain ⟨w3, ew3, hw3, hf⟩ := gw_e hf
    rw [ew3]
    refine lv_iload_n hx hb dX1_someLine_17 rfl (lv_at hl 3 rfl) ?_
    refine lv_iload_n hx hb dX1_someLine_18 rfl (lv_at hl 1 rfl) ?_
    obtain ⟨r4, hc5, hf⟩ := cq_e hf
    refine r_cVi (n := 2) (As := [.int x3, .int x1]) (rest := []) C (c_fX9_isOf hw3 hj σ H.size x3 x1 hc5) (oW hw3) rfl gv_RX1_32 (by decide +kernel) (rmD_le (by decide) (by decide)) rfl rfl (Nat.le_of_ble_eq_true rfl) dX1_someLine_19 hP hS hl.1 (fun H locs hP hS => ?_)
    refine lv_if_eq (tgt := 54) hx hb dX1_someLine_22 (by decide) (fun c6 => ?_) (fun c6 => ?_)
    · replace hf := it_t c6 hf
      refine lv_iinc (v := (x3 + 1)) (lv' := [(3, .int (x3 + 1)), (0, .ref (ea E 30)), (1, .int x1), (2, .int x2)]) hx hb dX1_someLine_54 hl (k := 3) rfl rfl (by decide) rfl (fun ls hl => ?_)
      refine lv_goto (tgt := 2) hx hb dX1_someLine_57 (by decide) ?_
      exact hr2 σ x1 x2 (x3 + 1) hf H locs ls hP hS (lv_sub hl [1, 2, 3, 0] rfl)
    · replace hf := it_f c6 hf
      refine lv_aload_n hx hb dX1_someLine_25 rfl (lv_at hl 0 rfl) ?_
      refine r_get (k := 0) (v := .ref (ea E (σ 30 0).toNatClampNeg)) C hP oC_30 rfl iX1 (by decide) wm_t223 rfl rfl dX1_someLine_26 ?_
      obtain ⟨w7, ew7, hw7, hf⟩ := gw_e hf
      rw [ew7]
      refine lv_iload_n hx hb dX1_someLine_29 rfl (lv_at hl 3 rfl) ?_
      refine lv_iload_n hx hb dX1_someLine_30 rfl (lv_at hl 2 rfl) ?_
      obtain ⟨r8, hc9, hf⟩ := cq_e hf
      refine r_cVi (n := 2) (As := [.int x3, .int x2]) (rest := []) C (c_fX9_isFor hw7 hj σ H.size x3 x2 hc9) (oW hw7) rfl gv_RX1_36 (by decide +kernel) (rmD_le (by decide) (by decide)) rfl rfl (Nat.le_of_ble_eq_true rfl) dX1_someLine_31 hP hS hl.1 (fun H locs hP hS => ?_)
      refine lv_if_eq (tgt := 54) hx hb dX1_someLine_34 (by decide) (fun c10 => ?_) (fun c10 => ?_)
      · replace hf := it_t c10 hf
        refine lv_iinc (v := (x3 + 1)) (lv' := [(3, .int (x3 + 1)), (0, .ref (ea E 30)), (1, .int x1), (2, .int x2)]) hx hb dX1_someLine_54 hl (k := 3) rfl rfl (by decide) rfl (fun ls hl => ?_)
        refine lv_goto (tgt := 2) hx hb dX1_someLine_57 (by decide) ?_
        exact hr2 σ x1 x2 (x3 + 1) hf H locs ls hP hS (lv_sub hl [1, 2, 3, 0] rfl)
      · replace hf := it_f c10 hf
        refine lv_aload_n hx hb dX1_someLine_37 rfl (lv_at hl 0 rfl) ?_
        refine r_get (k := 0) (v := .ref (ea E (σ 30 0).toNatClampNeg)) C hP oC_30 rfl iX1 (by decide) wm_t223 rfl rfl dX1_someLine_38 ?_
        obtain ⟨w11, ew11, hw11, hf⟩ := gw_e hf
        rw [ew11]
        refine lv_iload_n hx hb dX1_someLine_41 rfl (lv_at hl 3 rfl) ?_
        refine lv_aload_n hx hb dX1_someLine_42 rfl (lv_at hl 0 rfl) ?_
        refine r_get (k := 4) (v := .ref (ea E 33)) C hP oC_30 rfl iX1 (by decide) wm_t229 rfl rfl dX1_someLine_43 ?_
        obtain ⟨r12, σ14, hc13, hf⟩ := cb_e hf
        refine r_cVi (n := 2) (As := [.int x3, .ref (ea E 33)]) (rest := []) C (c_fX9_isSo hw11 fA_33 hj σ H.size x3 hc13) (oW hw11) rfl gv_RX1_39 (by decide +kernel) (rmD_le (by decide) (by decide)) rfl rfl (Nat.le_of_ble_eq_true rfl) dX1_someLine_46 hP hS hl.1 (fun H locs hP hS => ?_)
        refine lv_if_eq (tgt := 54) hx hb dX1_someLine_49 (by decide) (fun c15 => ?_) (fun c15 => ?_)
        · replace hf := it_t c15 hf
          refine lv_iinc (v := (x3 + 1)) (lv' := [(3, .int (x3 + 1)), (0, .ref (ea E 30)), (1, .int x1), (2, .int x2)]) hx hb dX1_someLine_54 hl (k := 3) rfl rfl (by decide) rfl (fun ls hl => ?_)
          refine lv_goto (tgt := 2) hx hb dX1_someLine_57 (by decide) ?_
          exact hr2 σ14 x1 x2 (x3 + 1) hf H locs ls hP hS (lv_sub hl [1, 2, 3, 0] rfl)
        · replace hf := it_f c15 hf
          refine lv_iconst (v := 1) hx hb dX1_someLine_52 (by decide) ?_
          cases hf
          exact r_zret C rfl hP hS dX1_someLine_53
def fX1_someLine_2 : Nat → St → Int32 → Int32 → Int32 → Option (Int32 × St)
  | 0 => fun _ _ _ _ => none
  | n + 1 => fun σ x1 x2 x3 => fX1_someLine_2B (fX1_someLine_2 n) σ x1 x2 x3
theorem b_fX1_someLine_2 {E : Ev} {l : Launch} {p : Program} {e : Env} {s : State} {m : MethodId} {args : Array Value} {below : List Frame} {meth : Method} {c : Code} (C : CX true E RX1 cX1_someLine 4 (some .boolean) p s m args meth c) {rr : Int32} {sr : St} : ∀ (n : Nat) (σ : St) (x1 : Int32) (x2 : Int32) (x3 : Int32), fX1_someLine_2 n σ x1 x2 x3 = some (rr, sr) → GW true l (rmD 3) E 4 p e s m args below meth c (MQ below (QI true E rr sr s.heap.size) args s 0 0 (aW true E s.heap.size)) σ 2 [(0, .ref (ea E 30)), (1, .int x1), (2, .int x2), (3, .int x3)] [] := by
  intro n
  induction n with
  | zero => intro σ x1 x2 x3 hf; have hf : (none : Option _) = some _ := hf; cases hf
  | succ n ih => intro σ x1 x2 x3 hf; exact b_fX1_someLine_2B C (fX1_someLine_2 n) ih σ x1 x2 x3 hf
def fX1_someLine (σ : St) (a0 : Int32) (a1 : Int32) : Option (Int32 × St) :=
fX1_someLine_2 FU σ a0 a1 0
set_option maxHeartbeats 4000000 in
theorem c_fX1_someLine {E : Ev} {l : Launch} (hj : jW true E) (σ : St) (sz : Nat) (a0 : Int32) (a1 : Int32) {rr : Int32} {sr : St} (hf : fX1_someLine σ a0 a1 = some (rr, sr)) : Met l yX1_someLine (Cond.code yX1_someLine cX1_someLine 4 (some .boolean) :: gT) (rmD 3) (va_Pc [.ref (ea E 30), .int a0, .int a1] (preW true E σ sz)) (QI true E rr sr sz) 0 0 (aW true E sz) := by
  refine r_entry (QI true E rr sr) hj (by decide) [.ref (ea E 30), .int a0, .int a1] (Nat.le_of_ble_eq_true rfl) (fun p e s m args below meth c C => ?_)
  intro H locs ls hP hS hl
  have hl : lv_has ls 4 [(0, .ref (ea E 30)), (1, .int a0), (2, .int a1)] := hl
  obtain ⟨hx, hb, hr, hml, hown, hts, hlocks, hK, hX, hj⟩ := id C
  unfold fX1_someLine at hf
  refine lv_iconst (v := 0) hx hb dX1_someLine_0 (by decide) ?_
  refine lv_istore_n (lv' := [(3, .int 0), (0, .ref (ea E 30)), (1, .int a0), (2, .int a1)]) hx hb dX1_someLine_1 rfl hl (by decide) rfl (fun ls hl => ?_)
  exact b_fX1_someLine_2 C FU σ a0 a1 0 hf H locs ls hP hS (lv_sub hl [1, 2, 3, 0] rfl)
def fX1_findWaysOf_11B (rec2 : St → Int32 → Int32 → Int32 → Option St) (rec11 : St → Int32 → Int32 → Int32 → Int32 → Option St) (σ : St) (x1 : Int32) (x2 : Int32) (x3 : Int32) (x4 : Int32) : Option St :=
(if 10 ≤ x4 then
rec2 σ x1 x2 (x3 + 1)
else
(cv (fX1_setPapers σ x1 x2 x3 x4) fun σ3 =>
(cb (fX1_someLine σ3 0 (-1)) fun r4 σ6 =>
(if r4 = 0 then
rec11 σ6 x1 x2 x3 (x4 + 1)
else
(cb (fX1_someLine σ6 1 (-1)) fun r8 σ10 =>
(if r8 = 0 then
(rdK 21 (σ10 31) x2 fun v12 =>
(wrK 21 σ10 31 x2 (v12 + 1) fun σ14 =>
(rdK 21 (σ14 32) x2 fun v16 =>
(if v16 = (-1) then
(wrK 21 σ14 32 x2 ((((1000000 * x1) + (10000 * x2)) + (100 * x3)) + x4) fun σ19 =>
rec11 σ19 x1 x2 x3 (x4 + 1))
else
rec11 σ14 x1 x2 x3 (x4 + 1)))))
else
rec11 σ10 x1 x2 x3 (x4 + 1)))))))
set_option maxHeartbeats 4000000 in
theorem b_fX1_findWaysOf_11B {E : Ev} {l : Launch} {p : Program} {e : Env} {s : State} {m : MethodId} {args : Array Value} {below : List Frame} {meth : Method} {c : Code} (C : CX true E RX1 cX1_findWaysOf 5 none p s m args meth c) {sr : St} (rec2 : St → Int32 → Int32 → Int32 → Option St) (hr2 : ∀ (σ : St) (x1 : Int32) (x2 : Int32) (x3 : Int32), rec2 σ x1 x2 x3 = some sr → GW true l (rmD 4) E 5 p e s m args below meth c (MQ below (QV true E sr s.heap.size) args s 0 0 (aW true E s.heap.size)) σ 2 [(0, .ref (ea E 30)), (1, .int x1), (2, .int x2), (3, .int x3)] []) (rec11 : St → Int32 → Int32 → Int32 → Int32 → Option St) (hr11 : ∀ (σ : St) (x1 : Int32) (x2 : Int32) (x3 : Int32) (x4 : Int32), rec11 σ x1 x2 x3 x4 = some sr → GW true l (rmD 4) E 5 p e s m args below meth c (MQ below (QV true E sr s.heap.size) args s 0 0 (aW true E s.heap.size)) σ 11 [(0, .ref (ea E 30)), (1, .int x1), (2, .int x2), (3, .int x3), (4, .int x4)] []) : ∀ (σ : St) (x1 : Int32) (x2 : Int32) (x3 : Int32) (x4 : Int32), fX1_findWaysOf_11B rec2 rec11 σ x1 x2 x3 x4 = some sr → GW true l (rmD 4) E 5 p e s m args below meth c (MQ below (QV true E sr s.heap.size) args s 0 0 (aW true E s.heap.size)) σ 11 [(0, .ref (ea E 30)), (1, .int x1), (2, .int x2), (3, .int x3), (4, .int x4)] [] := by
  intro σ x1 x2 x3 x4 hf H locs ls hP hS hl
  obtain ⟨hx, hb, hr, hml, hown, hts, hlocks, hK, hX, hj⟩ := id C
  unfold fX1_findWaysOf_11B at hf
  refine lv_iload hx hb dX1_findWaysOf_11 (lv_at hl 4 rfl) ?_
  refine lv_bipush (v := 10) hx hb dX1_findWaysOf_13 (by decide) ?_
  refine lv_icmp_ge (tgt := 95) hx hb dX1_findWaysOf_15 (by decide) (fun c1 => ?_) (fun c1 => ?_)
  · replace hf := it_t c1 hf
    refine lv_iinc (v := (x3 + 1)) (lv' := [(3, .int (x3 + 1)), (0, .ref (ea E 30)), (1, .int x1), (2, .int x2), (4, .int x4)]) hx hb dX1_findWaysOf_95 hl (k := 3) rfl rfl (by decide) rfl (fun ls hl => ?_)
    refine lv_goto (tgt := 2) hx hb dX1_findWaysOf_98 (by decide) ?_
    exact hr2 σ x1 x2 (x3 + 1) hf H locs ls hP hS (lv_sub hl [1, 2, 3, 0] rfl)
  · replace hf := it_f c1 hf
    refine lv_aload_n hx hb dX1_findWaysOf_18 rfl (lv_at hl 0 rfl) ?_
    refine lv_iload_n hx hb dX1_findWaysOf_19 rfl (lv_at hl 1 rfl) ?_
    refine lv_iload_n hx hb dX1_findWaysOf_20 rfl (lv_at hl 2 rfl) ?_
    refine lv_iload_n hx hb dX1_findWaysOf_21 rfl (lv_at hl 3 rfl) ?_
    refine lv_iload hx hb dX1_findWaysOf_22 (lv_at hl 4 rfl) ?_
    obtain ⟨σ3, hc2, hf⟩ := cv_e hf
    refine r_cVv (n := 4) (As := [.int x1, .int x2, .int x3, .int x4]) (rest := []) C (c_fX1_setPapers hj σ H.size x1 x2 x3 x4 hc2) oC_30 rfl gv_RX1_55 (by decide +kernel) (rmD_le (by decide) (by decide)) rfl rfl (Nat.le_of_ble_eq_true rfl) dX1_findWaysOf_24 hP hS hl.1 (fun H locs hP hS => ?_)
    refine lv_aload_n hx hb dX1_findWaysOf_27 rfl (lv_at hl 0 rfl) ?_
    refine lv_iconst (v := 0) hx hb dX1_findWaysOf_28 (by decide) ?_
    refine lv_iconst (v := (-1)) hx hb dX1_findWaysOf_29 (by decide) ?_
    obtain ⟨r4, σ6, hc5, hf⟩ := cb_e hf
    refine r_cVi (n := 2) (As := [.int 0, .int (-1)]) (rest := []) C (c_fX1_someLine hj σ3 H.size 0 (-1) hc5) oC_30 rfl gv_RX1_58 (by decide +kernel) (rmD_le (by decide) (by decide)) rfl rfl (Nat.le_of_ble_eq_true rfl) dX1_findWaysOf_30 hP hS hl.1 (fun H locs hP hS => ?_)
    refine lv_if_eq (tgt := 89) hx hb dX1_findWaysOf_33 (by decide) (fun c7 => ?_) (fun c7 => ?_)
    · replace hf := it_t c7 hf
      refine lv_iinc (v := (x4 + 1)) (lv' := [(4, .int (x4 + 1)), (0, .ref (ea E 30)), (1, .int x1), (2, .int x2), (3, .int x3)]) hx hb dX1_findWaysOf_89 hl (k := 4) rfl rfl (by decide) rfl (fun ls hl => ?_)
      refine lv_goto (tgt := 11) hx hb dX1_findWaysOf_92 (by decide) ?_
      exact hr11 σ6 x1 x2 x3 (x4 + 1) hf H locs ls hP hS (lv_sub hl [1, 2, 3, 4, 0] rfl)
    · replace hf := it_f c7 hf
      refine lv_aload_n hx hb dX1_findWaysOf_36 rfl (lv_at hl 0 rfl) ?_
      refine lv_iconst (v := 1) hx hb dX1_findWaysOf_37 (by decide) ?_
      refine lv_iconst (v := (-1)) hx hb dX1_findWaysOf_38 (by decide) ?_
      obtain ⟨r8, σ10, hc9, hf⟩ := cb_e hf
      refine r_cVi (n := 2) (As := [.int 1, .int (-1)]) (rest := []) C (c_fX1_someLine hj σ6 H.size 1 (-1) hc9) oC_30 rfl gv_RX1_58 (by decide +kernel) (rmD_le (by decide) (by decide)) rfl rfl (Nat.le_of_ble_eq_true rfl) dX1_findWaysOf_39 hP hS hl.1 (fun H locs hP hS => ?_)
      refine lv_if_ne (tgt := 89) hx hb dX1_findWaysOf_42 (by decide) (fun c11 => ?_) (fun c11 => ?_)
      · replace hf := it_f c11 hf
        refine lv_iinc (v := (x4 + 1)) (lv' := [(4, .int (x4 + 1)), (0, .ref (ea E 30)), (1, .int x1), (2, .int x2), (3, .int x3)]) hx hb dX1_findWaysOf_89 hl (k := 4) rfl rfl (by decide) rfl (fun ls hl => ?_)
        refine lv_goto (tgt := 11) hx hb dX1_findWaysOf_92 (by decide) ?_
        exact hr11 σ10 x1 x2 x3 (x4 + 1) hf H locs ls hP hS (lv_sub hl [1, 2, 3, 4, 0] rfl)
      · replace hf := it_t c11 hf
        refine lv_aload_n hx hb dX1_findWaysOf_45 rfl (lv_at hl 0 rfl) ?_
        refine r_get (k := 2) (v := .ref (ea E 31)) C hP oC_30 rfl iX1 (by decide) wm_t227 rfl rfl dX1_findWaysOf_46 ?_
        refine lv_iload_n hx hb dX1_findWaysOf_49 rfl (lv_at hl 2 rfl) ?_
        refine lv_dup2_11 hx hb dX1_findWaysOf_50 rfl rfl ?_
        have h13 := (rdK_e hf).1
        refine r_ald C hP aC_31 h13 dX1_findWaysOf_51 ?_
        refine lv_topi (fun v12 ev12 => ?_)
        replace hf := rdK_n ev12 hf
        refine lv_iconst (v := 1) hx hb dX1_findWaysOf_52 (by decide) ?_
        refine lv_iadd hx hb dX1_findWaysOf_53 ?_
        obtain ⟨h15, σ14, eσ14, hf⟩ := wrK_e hf
        refine r_ast C hP hS aC_31 h15 dX1_findWaysOf_54 (fun H locs hP hS => ?_)
        rw [← eσ14] at hP
        refine lv_aload_n hx hb dX1_findWaysOf_55 rfl (lv_at hl 0 rfl) ?_
        refine r_get (k := 3) (v := .ref (ea E 32)) C hP oC_30 rfl iX1 (by decide) wm_t228 rfl rfl dX1_findWaysOf_56 ?_
        refine lv_iload_n hx hb dX1_findWaysOf_59 rfl (lv_at hl 2 rfl) ?_
        have h17 := (rdK_e hf).1
        refine r_ald C hP aC_32 h17 dX1_findWaysOf_60 ?_
        refine lv_topi (fun v16 ev16 => ?_)
        replace hf := rdK_n ev16 hf
        refine lv_iconst (v := (-1)) hx hb dX1_findWaysOf_61 (by decide) ?_
        refine lv_icmp_ne (tgt := 89) hx hb dX1_findWaysOf_62 (by decide) (fun c18 => ?_) (fun c18 => ?_)
        · replace hf := it_f c18 hf
          refine lv_iinc (v := (x4 + 1)) (lv' := [(4, .int (x4 + 1)), (0, .ref (ea E 30)), (1, .int x1), (2, .int x2), (3, .int x3)]) hx hb dX1_findWaysOf_89 hl (k := 4) rfl rfl (by decide) rfl (fun ls hl => ?_)
          refine lv_goto (tgt := 11) hx hb dX1_findWaysOf_92 (by decide) ?_
          exact hr11 σ14 x1 x2 x3 (x4 + 1) hf H locs ls hP hS (lv_sub hl [1, 2, 3, 4, 0] rfl)
        · replace hf := it_t c18 hf
          refine lv_aload_n hx hb dX1_findWaysOf_65 rfl (lv_at hl 0 rfl) ?_
          refine r_get (k := 3) (v := .ref (ea E 32)) C hP oC_30 rfl iX1 (by decide) wm_t228 rfl rfl dX1_findWaysOf_66 ?_
          refine lv_iload_n hx hb dX1_findWaysOf_69 rfl (lv_at hl 2 rfl) ?_
          refine lv_ldc (v := 1000000) hx hb hown (hts _ wm_t948) dX1_findWaysOf_70 ?_
          refine lv_iload_n hx hb dX1_findWaysOf_72 rfl (lv_at hl 1 rfl) ?_
          refine lv_imul hx hb dX1_findWaysOf_73 ?_
          refine lv_sipush (v := 10000) hx hb dX1_findWaysOf_74 (by decide) ?_
          refine lv_iload_n hx hb dX1_findWaysOf_77 rfl (lv_at hl 2 rfl) ?_
          refine lv_imul hx hb dX1_findWaysOf_78 ?_
          refine lv_iadd hx hb dX1_findWaysOf_79 ?_
          refine lv_bipush (v := 100) hx hb dX1_findWaysOf_80 (by decide) ?_
          refine lv_iload_n hx hb dX1_findWaysOf_82 rfl (lv_at hl 3 rfl) ?_
          refine lv_imul hx hb dX1_findWaysOf_83 ?_
          refine lv_iadd hx hb dX1_findWaysOf_84 ?_
          refine lv_iload hx hb dX1_findWaysOf_85 (lv_at hl 4 rfl) ?_
          refine lv_iadd hx hb dX1_findWaysOf_87 ?_
          obtain ⟨h20, σ19, eσ19, hf⟩ := wrK_e hf
          refine r_ast C hP hS aC_32 h20 dX1_findWaysOf_88 (fun H locs hP hS => ?_)
          rw [← eσ19] at hP
          refine lv_iinc (v := (x4 + 1)) (lv' := [(4, .int (x4 + 1)), (0, .ref (ea E 30)), (1, .int x1), (2, .int x2), (3, .int x3)]) hx hb dX1_findWaysOf_89 hl (k := 4) rfl rfl (by decide) rfl (fun ls hl => ?_)
          refine lv_goto (tgt := 11) hx hb dX1_findWaysOf_92 (by decide) ?_
          exact hr11 σ19 x1 x2 x3 (x4 + 1) hf H locs ls hP hS (lv_sub hl [1, 2, 3, 4, 0] rfl)
def fX1_findWaysOf_11 (rec2 : St → Int32 → Int32 → Int32 → Option St) : Nat → St → Int32 → Int32 → Int32 → Int32 → Option St
  | 0 => fun _ _ _ _ _ => none
  | n + 1 => fun σ x1 x2 x3 x4 => fX1_findWaysOf_11B rec2 (fX1_findWaysOf_11 rec2 n) σ x1 x2 x3 x4
theorem b_fX1_findWaysOf_11 {E : Ev} {l : Launch} {p : Program} {e : Env} {s : State} {m : MethodId} {args : Array Value} {below : List Frame} {meth : Method} {c : Code} (C : CX true E RX1 cX1_findWaysOf 5 none p s m args meth c) {sr : St} (rec2 : St → Int32 → Int32 → Int32 → Option St) (hr2 : ∀ (σ : St) (x1 : Int32) (x2 : Int32) (x3 : Int32), rec2 σ x1 x2 x3 = some sr → GW true l (rmD 4) E 5 p e s m args below meth c (MQ below (QV true E sr s.heap.size) args s 0 0 (aW true E s.heap.size)) σ 2 [(0, .ref (ea E 30)), (1, .int x1), (2, .int x2), (3, .int x3)] []) : ∀ (n : Nat) (σ : St) (x1 : Int32) (x2 : Int32) (x3 : Int32) (x4 : Int32), fX1_findWaysOf_11 rec2 n σ x1 x2 x3 x4 = some sr → GW true l (rmD 4) E 5 p e s m args below meth c (MQ below (QV true E sr s.heap.size) args s 0 0 (aW true E s.heap.size)) σ 11 [(0, .ref (ea E 30)), (1, .int x1), (2, .int x2), (3, .int x3), (4, .int x4)] [] := by
  intro n
  induction n with
  | zero => intro σ x1 x2 x3 x4 hf; have hf : (none : Option _) = some _ := hf; cases hf
  | succ n ih => intro σ x1 x2 x3 x4 hf; exact b_fX1_findWaysOf_11B C rec2 hr2 (fX1_findWaysOf_11 rec2 n) ih σ x1 x2 x3 x4 hf
def fX1_findWaysOf_2B (rec2 : St → Int32 → Int32 → Int32 → Option St) (σ : St) (x1 : Int32) (x2 : Int32) (x3 : Int32) : Option St :=
(if 10 ≤ x3 then
some σ
else
fX1_findWaysOf_11 rec2 FU σ x1 x2 x3 0)
set_option maxHeartbeats 4000000 in
theorem b_fX1_findWaysOf_2B {E : Ev} {l : Launch} {p : Program} {e : Env} {s : State} {m : MethodId} {args : Array Value} {below : List Frame} {meth : Method} {c : Code} (C : CX true E RX1 cX1_findWaysOf 5 none p s m args meth c) {sr : St} (rec2 : St → Int32 → Int32 → Int32 → Option St) (hr2 : ∀ (σ : St) (x1 : Int32) (x2 : Int32) (x3 : Int32), rec2 σ x1 x2 x3 = some sr → GW true l (rmD 4) E 5 p e s m args below meth c (MQ below (QV true E sr s.heap.size) args s 0 0 (aW true E s.heap.size)) σ 2 [(0, .ref (ea E 30)), (1, .int x1), (2, .int x2), (3, .int x3)] []) : ∀ (σ : St) (x1 : Int32) (x2 : Int32) (x3 : Int32), fX1_findWaysOf_2B rec2 σ x1 x2 x3 = some sr → GW true l (rmD 4) E 5 p e s m args below meth c (MQ below (QV true E sr s.heap.size) args s 0 0 (aW true E s.heap.size)) σ 2 [(0, .ref (ea E 30)), (1, .int x1), (2, .int x2), (3, .int x3)] [] := by
  intro σ x1 x2 x3 hf H locs ls hP hS hl
  obtain ⟨hx, hb, hr, hml, hown, hts, hlocks, hK, hX, hj⟩ := id C
  unfold fX1_findWaysOf_2B at hf
  refine lv_iload_n hx hb dX1_findWaysOf_2 rfl (lv_at hl 3 rfl) ?_
  refine lv_bipush (v := 10) hx hb dX1_findWaysOf_3 (by decide) ?_
  refine lv_icmp_ge (tgt := 101) hx hb dX1_findWaysOf_5 (by decide) (fun c1 => ?_) (fun c1 => ?_)
  · replace hf := it_t c1 hf
    cases hf
    exact r_vret C hP hS dX1_findWaysOf_101
  · replace hf := it_f c1 hf
    refine lv_iconst (v := 0) hx hb dX1_findWaysOf_8 (by decide) ?_
    refine lv_istore (lv' := [(4, .int 0), (0, .ref (ea E 30)), (1, .int x1), (2, .int x2), (3, .int x3)]) hx hb dX1_findWaysOf_9 hl (by decide) rfl (fun ls hl => ?_)
    exact b_fX1_findWaysOf_11 C rec2 hr2 FU σ x1 x2 x3 0 hf H locs ls hP hS (lv_sub hl [1, 2, 3, 4, 0] rfl)
def fX1_findWaysOf_2 : Nat → St → Int32 → Int32 → Int32 → Option St
  | 0 => fun _ _ _ _ => none
  | n + 1 => fun σ x1 x2 x3 => fX1_findWaysOf_2B (fX1_findWaysOf_2 n) σ x1 x2 x3
theorem b_fX1_findWaysOf_2 {E : Ev} {l : Launch} {p : Program} {e : Env} {s : State} {m : MethodId} {args : Array Value} {below : List Frame} {meth : Method} {c : Code} (C : CX true E RX1 cX1_findWaysOf 5 none p s m args meth c) {sr : St} : ∀ (n : Nat) (σ : St) (x1 : Int32) (x2 : Int32) (x3 : Int32), fX1_findWaysOf_2 n σ x1 x2 x3 = some sr → GW true l (rmD 4) E 5 p e s m args below meth c (MQ below (QV true E sr s.heap.size) args s 0 0 (aW true E s.heap.size)) σ 2 [(0, .ref (ea E 30)), (1, .int x1), (2, .int x2), (3, .int x3)] [] := by
  intro n
  induction n with
  | zero => intro σ x1 x2 x3 hf; have hf : (none : Option _) = some _ := hf; cases hf
  | succ n ih => intro σ x1 x2 x3 hf; exact b_fX1_findWaysOf_2B C (fX1_findWaysOf_2 n) ih σ x1 x2 x3 hf
def fX1_findWaysOf (σ : St) (a0 : Int32) (a1 : Int32) : Option St :=
fX1_findWaysOf_2 FU σ a0 a1 0
set_option maxHeartbeats 4000000 in
theorem c_fX1_findWaysOf {E : Ev} {l : Launch} (hj : jW true E) (σ : St) (sz : Nat) (a0 : Int32) (a1 : Int32) {sr : St} (hf : fX1_findWaysOf σ a0 a1 = some sr) : Met l yX1_findWaysOf (Cond.code yX1_findWaysOf cX1_findWaysOf 5 none :: gT) (rmD 4) (va_Pc [.ref (ea E 30), .int a0, .int a1] (preW true E σ sz)) (QV true E sr sz) 0 0 (aW true E sz) := by
  refine r_entry (QV true E sr) hj (by decide) [.ref (ea E 30), .int a0, .int a1] (Nat.le_of_ble_eq_true rfl) (fun p e s m args below meth c C => ?_)
  intro H locs ls hP hS hl
  have hl : lv_has ls 5 [(0, .ref (ea E 30)), (1, .int a0), (2, .int a1)] := hl
  obtain ⟨hx, hb, hr, hml, hown, hts, hlocks, hK, hX, hj⟩ := id C
  unfold fX1_findWaysOf at hf
  refine lv_iconst (v := 0) hx hb dX1_findWaysOf_0 (by decide) ?_
  refine lv_istore_n (lv' := [(3, .int 0), (0, .ref (ea E 30)), (1, .int a0), (2, .int a1)]) hx hb dX1_findWaysOf_1 rfl hl (by decide) rfl (fun ls hl => ?_)
  exact b_fX1_findWaysOf_2 C FU σ a0 a1 0 hf H locs ls hP hS (lv_sub hl [1, 2, 3, 0] rfl)
def fX2_comesTo_2B (rec2 : St → Int32 → Int32 → Option (Int32 × St)) (σ : St) (x1 : Int32) (x2 : Int32) : Option (Int32 × St) :=
(gw (σ 28 0) fun w1 =>
(if (σ w1 0) ≤ x2 then
some (0, σ)
else
(gw (σ 28 0) fun w3 =>
(cq (fX9_isOf w3 σ x2 x1) fun r4 =>
(if r4 = 0 then
rec2 σ x1 (x2 + 1)
else
(gw (σ 28 0) fun w7 =>
(cb (fX9_isSo w7 29 σ x2) fun r8 σ10 =>
(if r8 = 0 then
rec2 σ10 x1 (x2 + 1)
else
(gw (σ10 28 0) fun w12 =>
(cb (fX9_valueOf w12 29 σ10 x2) fun r13 σ15 =>
some (r13, σ15)))))))))))
set_option maxHeartbeats 4000000 in
theorem b_fX2_comesTo_2B {E : Ev} {l : Launch} {p : Program} {e : Env} {s : State} {m : MethodId} {args : Array Value} {below : List Frame} {meth : Method} {c : Code} (C : CX true E RX2 cX2_comesTo 3 (some .int) p s m args meth c) {rr : Int32} {sr : St} (rec2 : St → Int32 → Int32 → Option (Int32 × St)) (hr2 : ∀ (σ : St) (x1 : Int32) (x2 : Int32), rec2 σ x1 x2 = some (rr, sr) → GW true l (rmD 3) E 3 p e s m args below meth c (MQ below (QI true E rr sr s.heap.size) args s 0 0 (aW true E s.heap.size)) σ 2 [(0, .ref (ea E 28)), (1, .int x1), (2, .int x2)] []) : ∀ (σ : St) (x1 : Int32) (x2 : Int32), fX2_comesTo_2B rec2 σ x1 x2 = some (rr, sr) → GW true l (rmD 3) E 3 p e s m args below meth c (MQ below (QI true E rr sr s.heap.size) args s 0 0 (aW true E s.heap.size)) σ 2 [(0, .ref (ea E 28)), (1, .int x1), (2, .int x2)] [] := by
  intro σ x1 x2 hf H locs ls hP hS hl
  obtain ⟨hx, hb, hr, hml, hown, hts, hlocks, hK, hX, hj⟩ := id C
  unfold fX2_comesTo_2B at hf
  refine lv_iload_n hx hb dX2_comesTo_2 rfl (lv_at hl 2 rfl) ?_
  refine lv_aload_n hx hb dX2_comesTo_3 rfl (lv_at hl 0 rfl) ?_
  refine r_get (k := 0) (v := .ref (ea E (σ 28 0).toNatClampNeg)) C hP oC_28 rfl iX2 (by decide) wm_t203 rfl rfl dX2_comesTo_4 ?_
  obtain ⟨w1, ew1, hw1, hf⟩ := gw_e hf
  rw [ew1]
  refine r_get (k := 0) (v := .int (σ w1 0)) C hP (oW hw1) rfl iX9 (by decide) wm_t135 rfl rfl dX2_comesTo_7 ?_
  refine lv_icmp_ge (tgt := 59) hx hb dX2_comesTo_10 (by decide) (fun c2 => ?_) (fun c2 => ?_)
  · replace hf := it_t c2 hf
    refine lv_iconst (v := 0) hx hb dX2_comesTo_59 (by decide) ?_
    cases hf
    exact r_iret C hP hS dX2_comesTo_60
  · replace hf := it_f c2 hf
    refine lv_aload_n hx hb dX2_comesTo_13 rfl (lv_at hl 0 rfl) ?_
    refine r_get (k := 0) (v := .ref (ea E (σ 28 0).toNatClampNeg)) C hP oC_28 rfl iX2 (by decide) wm_t203 rfl rfl dX2_comesTo_14 ?_
    obtain ⟨w3, ew3, hw3, hf⟩ := gw_e hf
    rw [ew3]
    refine lv_iload_n hx hb dX2_comesTo_17 rfl (lv_at hl 2 rfl) ?_
    refine lv_iload_n hx hb dX2_comesTo_18 rfl (lv_at hl 1 rfl) ?_
    obtain ⟨r4, hc5, hf⟩ := cq_e hf
    refine r_cVi (n := 2) (As := [.int x2, .int x1]) (rest := []) C (c_fX9_isOf hw3 hj σ H.size x2 x1 hc5) (oW hw3) rfl gv_RX2_27 (by decide +kernel) (rmD_le (by decide) (by decide)) rfl rfl (Nat.le_of_ble_eq_true rfl) dX2_comesTo_19 hP hS hl.1 (fun H locs hP hS => ?_)
    refine lv_if_eq (tgt := 53) hx hb dX2_comesTo_22 (by decide) (fun c6 => ?_) (fun c6 => ?_)
    · replace hf := it_t c6 hf
      refine lv_iinc (v := (x2 + 1)) (lv' := [(2, .int (x2 + 1)), (0, .ref (ea E 28)), (1, .int x1)]) hx hb dX2_comesTo_53 hl (k := 2) rfl rfl (by decide) rfl (fun ls hl => ?_)
      refine lv_goto (tgt := 2) hx hb dX2_comesTo_56 (by decide) ?_
      exact hr2 σ x1 (x2 + 1) hf H locs ls hP hS (lv_sub hl [1, 2, 0] rfl)
    · replace hf := it_f c6 hf
      refine lv_aload_n hx hb dX2_comesTo_25 rfl (lv_at hl 0 rfl) ?_
      refine r_get (k := 0) (v := .ref (ea E (σ 28 0).toNatClampNeg)) C hP oC_28 rfl iX2 (by decide) wm_t203 rfl rfl dX2_comesTo_26 ?_
      obtain ⟨w7, ew7, hw7, hf⟩ := gw_e hf
      rw [ew7]
      refine lv_iload_n hx hb dX2_comesTo_29 rfl (lv_at hl 2 rfl) ?_
      refine lv_aload_n hx hb dX2_comesTo_30 rfl (lv_at hl 0 rfl) ?_
      refine r_get (k := 2) (v := .ref (ea E 29)) C hP oC_28 rfl iX2 (by decide) wm_t207 rfl rfl dX2_comesTo_31 ?_
      obtain ⟨r8, σ10, hc9, hf⟩ := cb_e hf
      refine r_cVi (n := 2) (As := [.int x2, .ref (ea E 29)]) (rest := []) C (c_fX9_isSo hw7 fA_29 hj σ H.size x2 hc9) (oW hw7) rfl gv_RX2_31 (by decide +kernel) (rmD_le (by decide) (by decide)) rfl rfl (Nat.le_of_ble_eq_true rfl) dX2_comesTo_34 hP hS hl.1 (fun H locs hP hS => ?_)
      refine lv_if_eq (tgt := 53) hx hb dX2_comesTo_37 (by decide) (fun c11 => ?_) (fun c11 => ?_)
      · replace hf := it_t c11 hf
        refine lv_iinc (v := (x2 + 1)) (lv' := [(2, .int (x2 + 1)), (0, .ref (ea E 28)), (1, .int x1)]) hx hb dX2_comesTo_53 hl (k := 2) rfl rfl (by decide) rfl (fun ls hl => ?_)
        refine lv_goto (tgt := 2) hx hb dX2_comesTo_56 (by decide) ?_
        exact hr2 σ10 x1 (x2 + 1) hf H locs ls hP hS (lv_sub hl [1, 2, 0] rfl)
      · replace hf := it_f c11 hf
        refine lv_aload_n hx hb dX2_comesTo_40 rfl (lv_at hl 0 rfl) ?_
        refine r_get (k := 0) (v := .ref (ea E (σ10 28 0).toNatClampNeg)) C hP oC_28 rfl iX2 (by decide) wm_t203 rfl rfl dX2_comesTo_41 ?_
        obtain ⟨w12, ew12, hw12, hf⟩ := gw_e hf
        rw [ew12]
        refine lv_iload_n hx hb dX2_comesTo_44 rfl (lv_at hl 2 rfl) ?_
        refine lv_aload_n hx hb dX2_comesTo_45 rfl (lv_at hl 0 rfl) ?_
        refine r_get (k := 2) (v := .ref (ea E 29)) C hP oC_28 rfl iX2 (by decide) wm_t207 rfl rfl dX2_comesTo_46 ?_
        obtain ⟨r13, σ15, hc14, hf⟩ := cb_e hf
        refine r_cVi (n := 2) (As := [.int x2, .ref (ea E 29)]) (rest := []) C (c_fX9_valueOf hw12 fA_29 hj σ10 H.size x2 hc14) (oW hw12) rfl gv_RX2_35 (by decide +kernel) (rmD_le (by decide) (by decide)) rfl rfl (Nat.le_of_ble_eq_true rfl) dX2_comesTo_49 hP hS hl.1 (fun H locs hP hS => ?_)
        cases hf
        exact r_iret C hP hS dX2_comesTo_52
def fX2_comesTo_2 : Nat → St → Int32 → Int32 → Option (Int32 × St)
  | 0 => fun _ _ _ => none
  | n + 1 => fun σ x1 x2 => fX2_comesTo_2B (fX2_comesTo_2 n) σ x1 x2
theorem b_fX2_comesTo_2 {E : Ev} {l : Launch} {p : Program} {e : Env} {s : State} {m : MethodId} {args : Array Value} {below : List Frame} {meth : Method} {c : Code} (C : CX true E RX2 cX2_comesTo 3 (some .int) p s m args meth c) {rr : Int32} {sr : St} : ∀ (n : Nat) (σ : St) (x1 : Int32) (x2 : Int32), fX2_comesTo_2 n σ x1 x2 = some (rr, sr) → GW true l (rmD 3) E 3 p e s m args below meth c (MQ below (QI true E rr sr s.heap.size) args s 0 0 (aW true E s.heap.size)) σ 2 [(0, .ref (ea E 28)), (1, .int x1), (2, .int x2)] [] := by
  intro n
  induction n with
  | zero => intro σ x1 x2 hf; have hf : (none : Option _) = some _ := hf; cases hf
  | succ n ih => intro σ x1 x2 hf; exact b_fX2_comesTo_2B C (fX2_comesTo_2 n) ih σ x1 x2 hf
def fX2_comesTo (σ : St) (a0 : Int32) : Option (Int32 × St) :=
fX2_comesTo_2 FU σ a0 0
set_option maxHeartbeats 4000000 in
theorem c_fX2_comesTo {E : Ev} {l : Launch} (hj : jW true E) (σ : St) (sz : Nat) (a0 : Int32) {rr : Int32} {sr : St} (hf : fX2_comesTo σ a0 = some (rr, sr)) : Met l yX2_comesTo (Cond.code yX2_comesTo cX2_comesTo 3 (some .int) :: gT) (rmD 3) (va_Pc [.ref (ea E 28), .int a0] (preW true E σ sz)) (QI true E rr sr sz) 0 0 (aW true E sz) := by
  refine r_entry (QI true E rr sr) hj (by decide) [.ref (ea E 28), .int a0] (Nat.le_of_ble_eq_true rfl) (fun p e s m args below meth c C => ?_)
  intro H locs ls hP hS hl
  have hl : lv_has ls 3 [(0, .ref (ea E 28)), (1, .int a0)] := hl
  obtain ⟨hx, hb, hr, hml, hown, hts, hlocks, hK, hX, hj⟩ := id C
  unfold fX2_comesTo at hf
  refine lv_iconst (v := 0) hx hb dX2_comesTo_0 (by decide) ?_
  refine lv_istore_n (lv' := [(2, .int 0), (0, .ref (ea E 28)), (1, .int a0)]) hx hb dX2_comesTo_1 rfl hl (by decide) rfl (fun ls hl => ?_)
  exact b_fX2_comesTo_2 C FU σ a0 0 hf H locs ls hP hS (lv_sub hl [1, 2, 0] rfl)
def fX3_fewest_41 (rec11 : St → Int32 → Int32 → Option (Int32 × St)) (σ : St) (x3 : Int32) (x4 : Int32) (y0 : Int32) : Option (Int32 × St) :=
(if y0 = 0 then
rec11 σ x3 (x4 + 1)
else
(cq (fX3_isFair σ x4) fun r2 =>
(if r2 = 0 then
rec11 σ x3 (x4 + 1)
else
rec11 σ x4 (x4 + 1))))
set_option maxHeartbeats 4000000 in
theorem b_fX3_fewest_41 {E : Ev} {l : Launch} {p : Program} {e : Env} {s : State} {m : MethodId} {args : Array Value} {below : List Frame} {meth : Method} {c : Code} (C : CX true E RX3 cX3_fewest 6 (some .int) p s m args meth c) {rr : Int32} {sr : St} (rec11 : St → Int32 → Int32 → Option (Int32 × St)) (hr11 : ∀ (σ : St) (x3 : Int32) (x4 : Int32), rec11 σ x3 x4 = some (rr, sr) → GW true l (rmD 5) E 6 p e s m args below meth c (MQ below (QI true E rr sr s.heap.size) args s 0 0 (aW true E s.heap.size)) σ 11 [(0, .ref (ea E 38)), (3, .int x3), (4, .int x4)] []) : ∀ (σ : St) (x3 : Int32) (x4 : Int32) (y0 : Int32), fX3_fewest_41 rec11 σ x3 x4 y0 = some (rr, sr) → GW true l (rmD 5) E 6 p e s m args below meth c (MQ below (QI true E rr sr s.heap.size) args s 0 0 (aW true E s.heap.size)) σ 41 [(0, .ref (ea E 38)), (3, .int x3), (4, .int x4)] [.int y0] := by
  intro σ x3 x4 y0 hf H locs ls hP hS hl
  obtain ⟨hx, hb, hr, hml, hown, hts, hlocks, hK, hX, hj⟩ := id C
  unfold fX3_fewest_41 at hf
  refine lv_istore (lv' := [(5, .int y0), (0, .ref (ea E 38)), (3, .int x3), (4, .int x4)]) hx hb dX3_fewest_41 hl (by decide) rfl (fun ls hl => ?_)
  refine lv_iload hx hb dX3_fewest_43 (lv_at hl 0 rfl) ?_
  refine lv_if_eq (tgt := 60) hx hb dX3_fewest_45 (by decide) (fun c1 => ?_) (fun c1 => ?_)
  · replace hf := it_t c1 hf
    refine lv_iinc (v := (x4 + 1)) (lv' := [(4, .int (x4 + 1)), (5, .int y0), (0, .ref (ea E 38)), (3, .int x3)]) hx hb dX3_fewest_60 hl (k := 3) rfl rfl (by decide) rfl (fun ls hl => ?_)
    refine lv_goto (tgt := 11) hx hb dX3_fewest_63 (by decide) ?_
    exact hr11 σ x3 (x4 + 1) hf H locs ls hP hS (lv_sub hl [2, 3, 0] rfl)
  · replace hf := it_f c1 hf
    refine lv_aload_n hx hb dX3_fewest_48 rfl (lv_at hl 1 rfl) ?_
    refine lv_iload hx hb dX3_fewest_49 (lv_at hl 3 rfl) ?_
    obtain ⟨r2, hc3, hf⟩ := cq_e hf
    refine r_cVi (n := 1) (As := [.int x4]) (rest := []) C (c_fX3_isFair hj σ H.size x4 hc3) oC_38 rfl gv_RX3_33 (by decide +kernel) (rmD_le (by decide) (by decide)) rfl rfl (Nat.le_of_ble_eq_true rfl) dX3_fewest_51 hP hS hl.1 (fun H locs hP hS => ?_)
    refine lv_if_eq (tgt := 60) hx hb dX3_fewest_54 (by decide) (fun c4 => ?_) (fun c4 => ?_)
    · replace hf := it_t c4 hf
      refine lv_iinc (v := (x4 + 1)) (lv' := [(4, .int (x4 + 1)), (5, .int y0), (0, .ref (ea E 38)), (3, .int x3)]) hx hb dX3_fewest_60 hl (k := 3) rfl rfl (by decide) rfl (fun ls hl => ?_)
      refine lv_goto (tgt := 11) hx hb dX3_fewest_63 (by decide) ?_
      exact hr11 σ x3 (x4 + 1) hf H locs ls hP hS (lv_sub hl [2, 3, 0] rfl)
    · replace hf := it_f c4 hf
      refine lv_iload hx hb dX3_fewest_57 (lv_at hl 3 rfl) ?_
      refine lv_istore_n (lv' := [(3, .int x4), (5, .int y0), (0, .ref (ea E 38)), (4, .int x4)]) hx hb dX3_fewest_59 rfl hl (by decide) rfl (fun ls hl => ?_)
      refine lv_iinc (v := (x4 + 1)) (lv' := [(4, .int (x4 + 1)), (3, .int x4), (5, .int y0), (0, .ref (ea E 38))]) hx hb dX3_fewest_60 hl (k := 3) rfl rfl (by decide) rfl (fun ls hl => ?_)
      refine lv_goto (tgt := 11) hx hb dX3_fewest_63 (by decide) ?_
      exact hr11 σ x4 (x4 + 1) hf H locs ls hP hS (lv_sub hl [3, 1, 0] rfl)
def fX3_fewest_11B (rec11 : St → Int32 → Int32 → Option (Int32 × St)) (σ : St) (x3 : Int32) (x4 : Int32) : Option (Int32 × St) :=
(if 256 ≤ x4 then
some (x3, σ)
else
(if x3 = (-1) then
fX3_fewest_41 rec11 σ x3 x4 1
else
(if (fJ6_bitCount_0f7a4 x3) ≤ (fJ6_bitCount_0f7a4 x4) then
fX3_fewest_41 rec11 σ x3 x4 0
else
fX3_fewest_41 rec11 σ x3 x4 1)))
set_option maxHeartbeats 4000000 in
theorem b_fX3_fewest_11B {E : Ev} {l : Launch} {p : Program} {e : Env} {s : State} {m : MethodId} {args : Array Value} {below : List Frame} {meth : Method} {c : Code} (C : CX true E RX3 cX3_fewest 6 (some .int) p s m args meth c) {rr : Int32} {sr : St} (rec11 : St → Int32 → Int32 → Option (Int32 × St)) (hr11 : ∀ (σ : St) (x3 : Int32) (x4 : Int32), rec11 σ x3 x4 = some (rr, sr) → GW true l (rmD 5) E 6 p e s m args below meth c (MQ below (QI true E rr sr s.heap.size) args s 0 0 (aW true E s.heap.size)) σ 11 [(0, .ref (ea E 38)), (3, .int x3), (4, .int x4)] []) : ∀ (σ : St) (x3 : Int32) (x4 : Int32), fX3_fewest_11B rec11 σ x3 x4 = some (rr, sr) → GW true l (rmD 5) E 6 p e s m args below meth c (MQ below (QI true E rr sr s.heap.size) args s 0 0 (aW true E s.heap.size)) σ 11 [(0, .ref (ea E 38)), (3, .int x3), (4, .int x4)] [] := by
  intro σ x3 x4 hf H locs ls hP hS hl
  obtain ⟨hx, hb, hr, hml, hown, hts, hlocks, hK, hX, hj⟩ := id C
  unfold fX3_fewest_11B at hf
  refine lv_iload hx hb dX3_fewest_11 (lv_at hl 2 rfl) ?_
  refine lv_sipush (v := 256) hx hb dX3_fewest_13 (by decide) ?_
  refine lv_icmp_ge (tgt := 66) hx hb dX3_fewest_16 (by decide) (fun c1 => ?_) (fun c1 => ?_)
  · replace hf := it_t c1 hf
    refine lv_iload_n hx hb dX3_fewest_66 rfl (lv_at hl 1 rfl) ?_
    cases hf
    exact r_iret C hP hS dX3_fewest_67
  · replace hf := it_f c1 hf
    refine lv_iload_n hx hb dX3_fewest_19 rfl (lv_at hl 1 rfl) ?_
    refine lv_iconst (v := (-1)) hx hb dX3_fewest_20 (by decide) ?_
    refine lv_icmp_eq (tgt := 36) hx hb dX3_fewest_21 (by decide) (fun c2 => ?_) (fun c2 => ?_)
    · replace hf := it_t c2 hf
      refine lv_iconst (v := 1) hx hb dX3_fewest_36 (by decide) ?_
      refine lv_goto (tgt := 41) hx hb dX3_fewest_37 (by decide) ?_
      exact b_fX3_fewest_41 C rec11 hr11 σ x3 x4 1 hf H locs ls hP hS (lv_sub hl [0, 1, 2] rfl)
    · replace hf := it_f c2 hf
      refine lv_iload hx hb dX3_fewest_24 (lv_at hl 2 rfl) ?_
      refine r_cSi (n := 1) (As := [.int x4]) (rest := []) C (c_fJ6_bitCount_0f7a4 hj σ H.size x4) gs_RX3_27 (by decide +kernel) (rmD_le (by decide) (by decide)) rfl rfl (Nat.le_of_ble_eq_true rfl) dX3_fewest_26 hP hS hl.1 (fun H locs hP hS => ?_)
      refine lv_iload_n hx hb dX3_fewest_29 rfl (lv_at hl 1 rfl) ?_
      refine r_cSi (n := 1) (As := [.int x3]) (rest := [.int (fJ6_bitCount_0f7a4 x4)]) C (c_fJ6_bitCount_0f7a4 hj σ H.size x3) gs_RX3_27 (by decide +kernel) (rmD_le (by decide) (by decide)) rfl rfl (Nat.le_of_ble_eq_true rfl) dX3_fewest_30 hP hS hl.1 (fun H locs hP hS => ?_)
      refine lv_icmp_ge (tgt := 40) hx hb dX3_fewest_33 (by decide) (fun c3 => ?_) (fun c3 => ?_)
      · replace hf := it_t c3 hf
        refine lv_iconst (v := 0) hx hb dX3_fewest_40 (by decide) ?_
        exact b_fX3_fewest_41 C rec11 hr11 σ x3 x4 0 hf H locs ls hP hS (lv_sub hl [0, 1, 2] rfl)
      · replace hf := it_f c3 hf
        refine lv_iconst (v := 1) hx hb dX3_fewest_36 (by decide) ?_
        refine lv_goto (tgt := 41) hx hb dX3_fewest_37 (by decide) ?_
        exact b_fX3_fewest_41 C rec11 hr11 σ x3 x4 1 hf H locs ls hP hS (lv_sub hl [0, 1, 2] rfl)
def fX3_fewest_11 : Nat → St → Int32 → Int32 → Option (Int32 × St)
  | 0 => fun _ _ _ => none
  | n + 1 => fun σ x3 x4 => fX3_fewest_11B (fX3_fewest_11 n) σ x3 x4
theorem b_fX3_fewest_11 {E : Ev} {l : Launch} {p : Program} {e : Env} {s : State} {m : MethodId} {args : Array Value} {below : List Frame} {meth : Method} {c : Code} (C : CX true E RX3 cX3_fewest 6 (some .int) p s m args meth c) {rr : Int32} {sr : St} : ∀ (n : Nat) (σ : St) (x3 : Int32) (x4 : Int32), fX3_fewest_11 n σ x3 x4 = some (rr, sr) → GW true l (rmD 5) E 6 p e s m args below meth c (MQ below (QI true E rr sr s.heap.size) args s 0 0 (aW true E s.heap.size)) σ 11 [(0, .ref (ea E 38)), (3, .int x3), (4, .int x4)] [] := by
  intro n
  induction n with
  | zero => intro σ x3 x4 hf; have hf : (none : Option _) = some _ := hf; cases hf
  | succ n ih => intro σ x3 x4 hf; exact b_fX3_fewest_11B C (fX3_fewest_11 n) ih σ x3 x4 hf
def fX3_fewest (σ : St) (a1 : Int32) : Option (Int32 × St) :=
(cv (fX3_findNeeded σ a1) fun σ2 =>
fX3_fewest_11 FU σ2 (-1) 0)
set_option maxHeartbeats 4000000 in
theorem c_fX3_fewest {E : Ev} {l : Launch} (hj : jW true E) (σ : St) (sz : Nat) (a1 : Int32) {rr : Int32} {sr : St} (hf : fX3_fewest σ a1 = some (rr, sr)) : Met l yX3_fewest (Cond.code yX3_fewest cX3_fewest 6 (some .int) :: gT) (rmD 5) (va_Pc [.ref (ea E 38), .ref (ea E 5), .int a1] (preW true E σ sz)) (QI true E rr sr sz) 0 0 (aW true E sz) := by
  refine r_entry (QI true E rr sr) hj (by decide) [.ref (ea E 38), .ref (ea E 5), .int a1] (Nat.le_of_ble_eq_true rfl) (fun p e s m args below meth c C => ?_)
  intro H locs ls hP hS hl
  have hl : lv_has ls 6 [(0, .ref (ea E 38)), (1, .ref (ea E 5)), (2, .int a1)] := hl
  obtain ⟨hx, hb, hr, hml, hown, hts, hlocks, hK, hX, hj⟩ := id C
  unfold fX3_fewest at hf
  refine lv_aload_n hx hb dX3_fewest_0 rfl (lv_at hl 0 rfl) ?_
  refine lv_aload_n hx hb dX3_fewest_1 rfl (lv_at hl 1 rfl) ?_
  refine lv_iload_n hx hb dX3_fewest_2 rfl (lv_at hl 2 rfl) ?_
  obtain ⟨σ2, hc1, hf⟩ := cv_e hf
  refine r_cVv (n := 2) (As := [.ref (ea E 5), .int a1]) (rest := []) C (c_fX3_findNeeded hj σ H.size a1 hc1) oC_38 rfl gv_RX3_23 (by decide +kernel) (rmD_le (by decide) (by decide)) rfl rfl (Nat.le_of_ble_eq_true rfl) dX3_fewest_3 hP hS hl.1 (fun H locs hP hS => ?_)
  refine lv_iconst (v := (-1)) hx hb dX3_fewest_6 (by decide) ?_
  refine lv_istore_n (lv' := [(3, .int (-1)), (0, .ref (ea E 38)), (1, .ref (ea E 5)), (2, .int a1)]) hx hb dX3_fewest_7 rfl hl (by decide) rfl (fun ls hl => ?_)
  refine lv_iconst (v := 0) hx hb dX3_fewest_8 (by decide) ?_
  refine lv_istore (lv' := [(4, .int 0), (3, .int (-1)), (0, .ref (ea E 38)), (1, .ref (ea E 5)), (2, .int a1)]) hx hb dX3_fewest_9 hl (by decide) rfl (fun ls hl => ?_)
  exact b_fX3_fewest_11 C FU σ2 (-1) 0 hf H locs ls hP hS (lv_sub hl [2, 1, 0] rfl)
def fX4_sum_87 (rec6 : St → Int32 → Int32 → Int32 → Option (Int32 × St)) (σ : St) (x2 : Int32) (x3 : Int32) (y0 : Int32) : Option (Int32 × St) :=
(cb (fX4_take σ 43) fun r1 σ3 =>
(if r1 = 0 then
(cb (fX4_take σ3 45) fun r5 σ7 =>
(if r5 = 0 then
some (1, σ7)
else
rec6 σ7 y0 x2 (x3 + 1)))
else
rec6 σ3 y0 x2 (x3 + 1)))
set_option maxHeartbeats 4000000 in
theorem b_fX4_sum_87 {E : Ev} {l : Launch} {p : Program} {e : Env} {s : State} {m : MethodId} {args : Array Value} {below : List Frame} {meth : Method} {c : Code} (C : CX true E RX4 cX4_sum 4 (some .boolean) p s m args meth c) {rr : Int32} {sr : St} (rec6 : St → Int32 → Int32 → Int32 → Option (Int32 × St)) (hr6 : ∀ (σ : St) (x1 : Int32) (x2 : Int32) (x3 : Int32), rec6 σ x1 x2 x3 = some (rr, sr) → GW true l (rmD 3) E 4 p e s m args below meth c (MQ below (QI true E rr sr s.heap.size) args s 0 0 (aW true E s.heap.size)) σ 6 [(0, .ref (ea E 24)), (1, .int x1), (2, .int x2), (3, .int x3)] []) : ∀ (σ : St) (x2 : Int32) (x3 : Int32) (y0 : Int32), fX4_sum_87 rec6 σ x2 x3 y0 = some (rr, sr) → GW true l (rmD 3) E 4 p e s m args below meth c (MQ below (QI true E rr sr s.heap.size) args s 0 0 (aW true E s.heap.size)) σ 87 [(0, .ref (ea E 24)), (2, .int x2), (3, .int x3)] [.int y0] := by
  intro σ x2 x3 y0 hf H locs ls hP hS hl
  obtain ⟨hx, hb, hr, hml, hown, hts, hlocks, hK, hX, hj⟩ := id C
  unfold fX4_sum_87 at hf
  refine lv_istore_n (lv' := [(1, .int y0), (0, .ref (ea E 24)), (2, .int x2), (3, .int x3)]) hx hb dX4_sum_87 rfl hl (by decide) rfl (fun ls hl => ?_)
  refine lv_aload_n hx hb dX4_sum_88 rfl (lv_at hl 1 rfl) ?_
  refine lv_bipush (v := 43) hx hb dX4_sum_89 (by decide) ?_
  obtain ⟨r1, σ3, hc2, hf⟩ := cb_e hf
  refine r_cVi (n := 1) (As := [.int 43]) (rest := []) C (c_fX4_take hj σ H.size 43 hc2) oC_24 rfl gv_RX4_120 (by decide +kernel) (rmD_le (by decide) (by decide)) rfl rfl (Nat.le_of_ble_eq_true rfl) dX4_sum_91 hP hS hl.1 (fun H locs hP hS => ?_)
  refine lv_if_ne (tgt := 108) hx hb dX4_sum_94 (by decide) (fun c4 => ?_) (fun c4 => ?_)
  · replace hf := it_f c4 hf
    refine lv_iinc (v := (x3 + 1)) (lv' := [(3, .int (x3 + 1)), (1, .int y0), (0, .ref (ea E 24)), (2, .int x2)]) hx hb dX4_sum_108 hl (k := 3) rfl rfl (by decide) rfl (fun ls hl => ?_)
    refine lv_goto (tgt := 6) hx hb dX4_sum_111 (by decide) ?_
    exact hr6 σ3 y0 x2 (x3 + 1) hf H locs ls hP hS (lv_sub hl [2, 1, 3, 0] rfl)
  · replace hf := it_t c4 hf
    refine lv_aload_n hx hb dX4_sum_97 rfl (lv_at hl 1 rfl) ?_
    refine lv_bipush (v := 45) hx hb dX4_sum_98 (by decide) ?_
    obtain ⟨r5, σ7, hc6, hf⟩ := cb_e hf
    refine r_cVi (n := 1) (As := [.int 45]) (rest := []) C (c_fX4_take hj σ3 H.size 45 hc6) oC_24 rfl gv_RX4_120 (by decide +kernel) (rmD_le (by decide) (by decide)) rfl rfl (Nat.le_of_ble_eq_true rfl) dX4_sum_100 hP hS hl.1 (fun H locs hP hS => ?_)
    refine lv_if_ne (tgt := 108) hx hb dX4_sum_103 (by decide) (fun c8 => ?_) (fun c8 => ?_)
    · replace hf := it_f c8 hf
      refine lv_iinc (v := (x3 + 1)) (lv' := [(3, .int (x3 + 1)), (1, .int y0), (0, .ref (ea E 24)), (2, .int x2)]) hx hb dX4_sum_108 hl (k := 3) rfl rfl (by decide) rfl (fun ls hl => ?_)
      refine lv_goto (tgt := 6) hx hb dX4_sum_111 (by decide) ?_
      exact hr6 σ7 y0 x2 (x3 + 1) hf H locs ls hP hS (lv_sub hl [2, 1, 3, 0] rfl)
    · replace hf := it_t c8 hf
      refine lv_iconst (v := 1) hx hb dX4_sum_106 (by decide) ?_
      cases hf
      exact r_zret C rfl hP hS dX4_sum_107
def fX4_sum_73 (rec6 : St → Int32 → Int32 → Int32 → Option (Int32 × St)) (σ : St) (x2 : Int32) (x3 : Int32) : Option (Int32 × St) :=
(if (σ 24 5) = 43 then
fX4_sum_87 rec6 σ x2 x3 4
else
fX4_sum_87 rec6 σ x2 x3 5)
set_option maxHeartbeats 4000000 in
theorem b_fX4_sum_73 {E : Ev} {l : Launch} {p : Program} {e : Env} {s : State} {m : MethodId} {args : Array Value} {below : List Frame} {meth : Method} {c : Code} (C : CX true E RX4 cX4_sum 4 (some .boolean) p s m args meth c) {rr : Int32} {sr : St} (rec6 : St → Int32 → Int32 → Int32 → Option (Int32 × St)) (hr6 : ∀ (σ : St) (x1 : Int32) (x2 : Int32) (x3 : Int32), rec6 σ x1 x2 x3 = some (rr, sr) → GW true l (rmD 3) E 4 p e s m args below meth c (MQ below (QI true E rr sr s.heap.size) args s 0 0 (aW true E s.heap.size)) σ 6 [(0, .ref (ea E 24)), (1, .int x1), (2, .int x2), (3, .int x3)] []) : ∀ (σ : St) (x2 : Int32) (x3 : Int32), fX4_sum_73 rec6 σ x2 x3 = some (rr, sr) → GW true l (rmD 3) E 4 p e s m args below meth c (MQ below (QI true E rr sr s.heap.size) args s 0 0 (aW true E s.heap.size)) σ 73 [(0, .ref (ea E 24)), (2, .int x2), (3, .int x3)] [] := by
  intro σ x2 x3 hf H locs ls hP hS hl
  obtain ⟨hx, hb, hr, hml, hown, hts, hlocks, hK, hX, hj⟩ := id C
  unfold fX4_sum_73 at hf
  refine lv_aload_n hx hb dX4_sum_73 rfl (lv_at hl 0 rfl) ?_
  refine r_get (k := 5) (v := .int (σ 24 5)) C hP oC_24 rfl iX4 (by decide) wm_t167 rfl rfl dX4_sum_74 ?_
  refine lv_bipush (v := 43) hx hb dX4_sum_77 (by decide) ?_
  refine lv_icmp_ne (tgt := 86) hx hb dX4_sum_79 (by decide) (fun c1 => ?_) (fun c1 => ?_)
  · replace hf := it_f c1 hf
    refine lv_iconst (v := 5) hx hb dX4_sum_86 (by decide) ?_
    exact b_fX4_sum_87 C rec6 hr6 σ x2 x3 5 hf H locs ls hP hS (lv_sub hl [0, 1, 2] rfl)
  · replace hf := it_t c1 hf
    refine lv_iconst (v := 4) hx hb dX4_sum_82 (by decide) ?_
    refine lv_goto (tgt := 87) hx hb dX4_sum_83 (by decide) ?_
    exact b_fX4_sum_87 C rec6 hr6 σ x2 x3 4 hf H locs ls hP hS (lv_sub hl [0, 1, 2] rfl)
def fX4_sum_36 (rec6 : St → Int32 → Int32 → Int32 → Option (Int32 × St)) (σ : St) (x1 : Int32) (x3 : Int32) : Option (Int32 × St) :=
(cb (fX4_parts σ) fun r1 σ3 =>
(if r1 = 0 then
some (0, σ3)
else
(cb (fX4_take σ3 42) fun r5 σ7 =>
(if r5 = 0 then
(if x1 = (-1) then
fX4_sum_73 rec6 σ7 r5 x3
else
(gw (σ7 24 7) fun w10 =>
(cv (fX9_add w10 σ7 x1 0) fun σ12 =>
fX4_sum_73 rec6 σ12 r5 x3)))
else
rec6 σ7 x1 r5 (x3 + 1)))))
set_option maxHeartbeats 4000000 in
theorem b_fX4_sum_36 {E : Ev} {l : Launch} {p : Program} {e : Env} {s : State} {m : MethodId} {args : Array Value} {below : List Frame} {meth : Method} {c : Code} (C : CX true E RX4 cX4_sum 4 (some .boolean) p s m args meth c) {rr : Int32} {sr : St} (rec6 : St → Int32 → Int32 → Int32 → Option (Int32 × St)) (hr6 : ∀ (σ : St) (x1 : Int32) (x2 : Int32) (x3 : Int32), rec6 σ x1 x2 x3 = some (rr, sr) → GW true l (rmD 3) E 4 p e s m args below meth c (MQ below (QI true E rr sr s.heap.size) args s 0 0 (aW true E s.heap.size)) σ 6 [(0, .ref (ea E 24)), (1, .int x1), (2, .int x2), (3, .int x3)] []) : ∀ (σ : St) (x1 : Int32) (x3 : Int32), fX4_sum_36 rec6 σ x1 x3 = some (rr, sr) → GW true l (rmD 3) E 4 p e s m args below meth c (MQ below (QI true E rr sr s.heap.size) args s 0 0 (aW true E s.heap.size)) σ 36 [(0, .ref (ea E 24)), (1, .int x1), (3, .int x3)] [] := by
  intro σ x1 x3 hf H locs ls hP hS hl
  obtain ⟨hx, hb, hr, hml, hown, hts, hlocks, hK, hX, hj⟩ := id C
  unfold fX4_sum_36 at hf
  refine lv_aload_n hx hb dX4_sum_36 rfl (lv_at hl 0 rfl) ?_
  obtain ⟨r1, σ3, hc2, hf⟩ := cb_e hf
  refine r_cVi (n := 0) (As := []) (rest := []) C (c_fX4_parts hj σ H.size hc2) oC_24 rfl gv_RX4_151 (by decide +kernel) (rmD_le (by decide) (by decide)) rfl rfl (Nat.le_of_ble_eq_true rfl) dX4_sum_37 hP hS hl.1 (fun H locs hP hS => ?_)
  refine lv_if_ne (tgt := 45) hx hb dX4_sum_40 (by decide) (fun c4 => ?_) (fun c4 => ?_)
  · replace hf := it_f c4 hf
    refine lv_aload_n hx hb dX4_sum_45 rfl (lv_at hl 0 rfl) ?_
    refine lv_bipush (v := 42) hx hb dX4_sum_46 (by decide) ?_
    obtain ⟨r5, σ7, hc6, hf⟩ := cb_e hf
    refine r_cVi (n := 1) (As := [.int 42]) (rest := []) C (c_fX4_take hj σ3 H.size 42 hc6) oC_24 rfl gv_RX4_120 (by decide +kernel) (rmD_le (by decide) (by decide)) rfl rfl (Nat.le_of_ble_eq_true rfl) dX4_sum_48 hP hS hl.1 (fun H locs hP hS => ?_)
    refine lv_istore_n (lv' := [(2, .int r5), (0, .ref (ea E 24)), (1, .int x1), (3, .int x3)]) hx hb dX4_sum_51 rfl hl (by decide) rfl (fun ls hl => ?_)
    refine lv_iload_n hx hb dX4_sum_52 rfl (lv_at hl 0 rfl) ?_
    refine lv_if_eq (tgt := 59) hx hb dX4_sum_53 (by decide) (fun c8 => ?_) (fun c8 => ?_)
    · replace hf := it_t c8 hf
      refine lv_iload_n hx hb dX4_sum_59 rfl (lv_at hl 2 rfl) ?_
      refine lv_iconst (v := (-1)) hx hb dX4_sum_60 (by decide) ?_
      refine lv_icmp_eq (tgt := 73) hx hb dX4_sum_61 (by decide) (fun c9 => ?_) (fun c9 => ?_)
      · replace hf := it_t c9 hf
        exact b_fX4_sum_73 C rec6 hr6 σ7 r5 x3 hf H locs ls hP hS (lv_sub hl [1, 0, 3] rfl)
      · replace hf := it_f c9 hf
        refine lv_aload_n hx hb dX4_sum_64 rfl (lv_at hl 1 rfl) ?_
        refine r_get (k := 7) (v := .ref (ea E (σ7 24 7).toNatClampNeg)) C hP oC_24 rfl iX4 (by decide) wm_t169 rfl rfl dX4_sum_65 ?_
        obtain ⟨w10, ew10, hw10, hf⟩ := gw_e hf
        rw [ew10]
        refine lv_iload_n hx hb dX4_sum_68 rfl (lv_at hl 2 rfl) ?_
        refine lv_iconst (v := 0) hx hb dX4_sum_69 (by decide) ?_
        obtain ⟨σ12, hc11, hf⟩ := cv_e hf
        refine r_cVv (n := 2) (As := [.int x1, .int 0]) (rest := []) C (c_fX9_add hw10 hj σ7 H.size x1 0 hc11) (oW hw10) rfl gv_RX4_142 (by decide +kernel) (rmD_le (by decide) (by decide)) rfl rfl (Nat.le_of_ble_eq_true rfl) dX4_sum_70 hP hS hl.1 (fun H locs hP hS => ?_)
        exact b_fX4_sum_73 C rec6 hr6 σ12 r5 x3 hf H locs ls hP hS (lv_sub hl [1, 0, 3] rfl)
    · replace hf := it_f c8 hf
      refine lv_goto (tgt := 108) hx hb dX4_sum_56 (by decide) ?_
      refine lv_iinc (v := (x3 + 1)) (lv' := [(3, .int (x3 + 1)), (2, .int r5), (0, .ref (ea E 24)), (1, .int x1)]) hx hb dX4_sum_108 hl (k := 3) rfl rfl (by decide) rfl (fun ls hl => ?_)
      refine lv_goto (tgt := 6) hx hb dX4_sum_111 (by decide) ?_
      exact hr6 σ7 x1 r5 (x3 + 1) hf H locs ls hP hS (lv_sub hl [2, 3, 1, 0] rfl)
  · replace hf := it_t c4 hf
    refine lv_iconst (v := 0) hx hb dX4_sum_43 (by decide) ?_
    cases hf
    exact r_zret C rfl hP hS dX4_sum_44
def fX4_sum_6B (rec6 : St → Int32 → Int32 → Int32 → Option (Int32 × St)) (σ : St) (x1 : Int32) (x2 : Int32) (x3 : Int32) : Option (Int32 × St) :=
(if 600 < x3 then
some (1, σ)
else
(cb (fX4_unit σ) fun r2 σ4 =>
(if r2 = 0 then
some (0, σ4)
else
(if x2 = 0 then
fX4_sum_36 rec6 σ4 x1 x3
else
(gw (σ4 24 7) fun w7 =>
(cv (fX9_add w7 σ4 6 0) fun σ9 =>
fX4_sum_36 rec6 σ9 x1 x3))))))
set_option maxHeartbeats 4000000 in
theorem b_fX4_sum_6B {E : Ev} {l : Launch} {p : Program} {e : Env} {s : State} {m : MethodId} {args : Array Value} {below : List Frame} {meth : Method} {c : Code} (C : CX true E RX4 cX4_sum 4 (some .boolean) p s m args meth c) {rr : Int32} {sr : St} (rec6 : St → Int32 → Int32 → Int32 → Option (Int32 × St)) (hr6 : ∀ (σ : St) (x1 : Int32) (x2 : Int32) (x3 : Int32), rec6 σ x1 x2 x3 = some (rr, sr) → GW true l (rmD 3) E 4 p e s m args below meth c (MQ below (QI true E rr sr s.heap.size) args s 0 0 (aW true E s.heap.size)) σ 6 [(0, .ref (ea E 24)), (1, .int x1), (2, .int x2), (3, .int x3)] []) : ∀ (σ : St) (x1 : Int32) (x2 : Int32) (x3 : Int32), fX4_sum_6B rec6 σ x1 x2 x3 = some (rr, sr) → GW true l (rmD 3) E 4 p e s m args below meth c (MQ below (QI true E rr sr s.heap.size) args s 0 0 (aW true E s.heap.size)) σ 6 [(0, .ref (ea E 24)), (1, .int x1), (2, .int x2), (3, .int x3)] [] := by
  intro σ x1 x2 x3 hf H locs ls hP hS hl
  obtain ⟨hx, hb, hr, hml, hown, hts, hlocks, hK, hX, hj⟩ := id C
  unfold fX4_sum_6B at hf
  refine lv_iload_n hx hb dX4_sum_6 rfl (lv_at hl 3 rfl) ?_
  refine lv_sipush (v := 600) hx hb dX4_sum_7 (by decide) ?_
  refine lv_icmp_gt (tgt := 114) hx hb dX4_sum_10 (by decide) (fun c1 => ?_) (fun c1 => ?_)
  · replace hf := it_t c1 hf
    refine lv_iconst (v := 1) hx hb dX4_sum_114 (by decide) ?_
    cases hf
    exact r_zret C rfl hP hS dX4_sum_115
  · replace hf := it_f c1 hf
    refine lv_aload_n hx hb dX4_sum_13 rfl (lv_at hl 0 rfl) ?_
    obtain ⟨r2, σ4, hc3, hf⟩ := cb_e hf
    refine r_cVi (n := 0) (As := []) (rest := []) C (c_fX4_unit hj σ H.size hc3) oC_24 rfl gv_RX4_148 (by decide +kernel) (rmD_le (by decide) (by decide)) rfl rfl (Nat.le_of_ble_eq_true rfl) dX4_sum_14 hP hS hl.1 (fun H locs hP hS => ?_)
    refine lv_if_ne (tgt := 22) hx hb dX4_sum_17 (by decide) (fun c5 => ?_) (fun c5 => ?_)
    · replace hf := it_f c5 hf
      refine lv_iload_n hx hb dX4_sum_22 rfl (lv_at hl 2 rfl) ?_
      refine lv_if_eq (tgt := 36) hx hb dX4_sum_23 (by decide) (fun c6 => ?_) (fun c6 => ?_)
      · replace hf := it_t c6 hf
        exact b_fX4_sum_36 C rec6 hr6 σ4 x1 x3 hf H locs ls hP hS (lv_sub hl [0, 1, 3] rfl)
      · replace hf := it_f c6 hf
        refine lv_aload_n hx hb dX4_sum_26 rfl (lv_at hl 0 rfl) ?_
        refine r_get (k := 7) (v := .ref (ea E (σ4 24 7).toNatClampNeg)) C hP oC_24 rfl iX4 (by decide) wm_t169 rfl rfl dX4_sum_27 ?_
        obtain ⟨w7, ew7, hw7, hf⟩ := gw_e hf
        rw [ew7]
        refine lv_bipush (v := 6) hx hb dX4_sum_30 (by decide) ?_
        refine lv_iconst (v := 0) hx hb dX4_sum_32 (by decide) ?_
        obtain ⟨σ9, hc8, hf⟩ := cv_e hf
        refine r_cVv (n := 2) (As := [.int 6, .int 0]) (rest := []) C (c_fX9_add hw7 hj σ4 H.size 6 0 hc8) (oW hw7) rfl gv_RX4_142 (by decide +kernel) (rmD_le (by decide) (by decide)) rfl rfl (Nat.le_of_ble_eq_true rfl) dX4_sum_33 hP hS hl.1 (fun H locs hP hS => ?_)
        exact b_fX4_sum_36 C rec6 hr6 σ9 x1 x3 hf H locs ls hP hS (lv_sub hl [0, 1, 3] rfl)
    · replace hf := it_t c5 hf
      refine lv_iconst (v := 0) hx hb dX4_sum_20 (by decide) ?_
      cases hf
      exact r_zret C rfl hP hS dX4_sum_21
def fX4_sum_6 : Nat → St → Int32 → Int32 → Int32 → Option (Int32 × St)
  | 0 => fun _ _ _ _ => none
  | n + 1 => fun σ x1 x2 x3 => fX4_sum_6B (fX4_sum_6 n) σ x1 x2 x3
theorem b_fX4_sum_6 {E : Ev} {l : Launch} {p : Program} {e : Env} {s : State} {m : MethodId} {args : Array Value} {below : List Frame} {meth : Method} {c : Code} (C : CX true E RX4 cX4_sum 4 (some .boolean) p s m args meth c) {rr : Int32} {sr : St} : ∀ (n : Nat) (σ : St) (x1 : Int32) (x2 : Int32) (x3 : Int32), fX4_sum_6 n σ x1 x2 x3 = some (rr, sr) → GW true l (rmD 3) E 4 p e s m args below meth c (MQ below (QI true E rr sr s.heap.size) args s 0 0 (aW true E s.heap.size)) σ 6 [(0, .ref (ea E 24)), (1, .int x1), (2, .int x2), (3, .int x3)] [] := by
  intro n
  induction n with
  | zero => intro σ x1 x2 x3 hf; have hf : (none : Option _) = some _ := hf; cases hf
  | succ n ih => intro σ x1 x2 x3 hf; exact b_fX4_sum_6B C (fX4_sum_6 n) ih σ x1 x2 x3 hf
def fX4_sum (σ : St) : Option (Int32 × St) :=
fX4_sum_6 FU σ (-1) 0 0
set_option maxHeartbeats 4000000 in
theorem c_fX4_sum {E : Ev} {l : Launch} (hj : jW true E) (σ : St) (sz : Nat) {rr : Int32} {sr : St} (hf : fX4_sum σ = some (rr, sr)) : Met l yX4_sum (Cond.code yX4_sum cX4_sum 4 (some .boolean) :: gT) (rmD 3) (va_Pc [.ref (ea E 24)] (preW true E σ sz)) (QI true E rr sr sz) 0 0 (aW true E sz) := by
  refine r_entry (QI true E rr sr) hj (by decide) [.ref (ea E 24)] (Nat.le_of_ble_eq_true rfl) (fun p e s m args below meth c C => ?_)
  intro H locs ls hP hS hl
  have hl : lv_has ls 4 [(0, .ref (ea E 24))] := hl
  obtain ⟨hx, hb, hr, hml, hown, hts, hlocks, hK, hX, hj⟩ := id C
  unfold fX4_sum at hf
  refine lv_iconst (v := (-1)) hx hb dX4_sum_0 (by decide) ?_
  refine lv_istore_n (lv' := [(1, .int (-1)), (0, .ref (ea E 24))]) hx hb dX4_sum_1 rfl hl (by decide) rfl (fun ls hl => ?_)
  refine lv_iconst (v := 0) hx hb dX4_sum_2 (by decide) ?_
  refine lv_istore_n (lv' := [(2, .int 0), (1, .int (-1)), (0, .ref (ea E 24))]) hx hb dX4_sum_3 rfl hl (by decide) rfl (fun ls hl => ?_)
  refine lv_iconst (v := 0) hx hb dX4_sum_4 (by decide) ?_
  refine lv_istore_n (lv' := [(3, .int 0), (2, .int 0), (1, .int (-1)), (0, .ref (ea E 24))]) hx hb dX4_sum_5 rfl hl (by decide) rfl (fun ls hl => ?_)
  exact b_fX4_sum_6 C FU σ (-1) 0 0 hf H locs ls hP hS (lv_sub hl [3, 2, 1, 0] rfl)
