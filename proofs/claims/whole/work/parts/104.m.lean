def fX11_wordAt_94B (σ : St) (rec5 : Int32 → Int32 → Int32 → Int32 → Option Int32) (rec94 : Int32 → Int32 → Int32 → Int32 → Option Int32) (x1 : Int32) (x2 : Int32) (x3 : Int32) (x4 : Int32) : Option Int32 :=
(rdK 134 (σ 14) x4 fun v1 =>
(if v1 = 32 then
rec5 x1 x2 x3 x4
else
rec94 x1 x2 x3 (x4 + 1)))
set_option maxHeartbeats 4000000 in
theorem b_fX11_wordAt_94B {E : Ev} {l : Launch} {p : Program} {e : Env} {s : State} {m : MethodId} {args : Array Value} {below : List Frame} {meth : Method} {c : Code} (σ : St) (C : CX false E RX11 cX11_wordAt 6 (some .int) p s m args meth c) {rr : Int32} (rec5 : Int32 → Int32 → Int32 → Int32 → Option Int32) (hr5 : ∀  (x1 : Int32) (x2 : Int32) (x3 : Int32) (x4 : Int32), rec5 x1 x2 x3 x4 = some rr → GW false l (rmD 1) E 6 p e s m args below meth c (MQ below (QI false E rr σ s.heap.size) args s 0 0 (aW false E s.heap.size)) σ 5 [(0, .ref (ea E 0)), (1, .int x1), (2, .int x2), (3, .int x3), (4, .int x4)] []) (rec94 : Int32 → Int32 → Int32 → Int32 → Option Int32) (hr94 : ∀  (x1 : Int32) (x2 : Int32) (x3 : Int32) (x4 : Int32), rec94 x1 x2 x3 x4 = some rr → GW false l (rmD 1) E 6 p e s m args below meth c (MQ below (QI false E rr σ s.heap.size) args s 0 0 (aW false E s.heap.size)) σ 94 [(0, .ref (ea E 0)), (1, .int x1), (2, .int x2), (3, .int x3), (4, .int x4)] []) : ∀  (x1 : Int32) (x2 : Int32) (x3 : Int32) (x4 : Int32), fX11_wordAt_94B σ rec5 rec94 x1 x2 x3 x4 = some rr → GW false l (rmD 1) E 6 p e s m args below meth c (MQ below (QI false E rr σ s.heap.size) args s 0 0 (aW false E s.heap.size)) σ 94 [(0, .ref (ea E 0)), (1, .int x1), (2, .int x2), (3, .int x3), (4, .int x4)] [] := by
  intro x1 x2 x3 x4 hf H locs ls hP hS hl
  obtain ⟨hx, hb, hr, hml, hown, hts, hlocks, hK, hX, hj⟩ := id C
  unfold fX11_wordAt_94B at hf
  refine lv_aload_n hx hb dX11_wordAt_94 rfl (lv_at hl 0 rfl) ?_
  refine r_get (k := 23) (v := .ref (ea E 14)) C hP oM_0 rfl iX11 (by decide) wm_t1040 rfl rfl dX11_wordAt_95 ?_
  refine lv_iload hx hb dX11_wordAt_98 (lv_at hl 4 rfl) ?_
  have h2 := (rdK_e hf).1
  refine r_ald C hP aM_14 h2 dX11_wordAt_100 ?_
  refine lv_topi (fun v1 ev1 => ?_)
  replace hf := rdK_n ev1 hf
  refine lv_bipush (v := 32) hx hb dX11_wordAt_101 (by decide) ?_
  refine lv_icmp_eq (tgt := 115) hx hb dX11_wordAt_103 (by decide) (fun c3 => ?_) (fun c3 => ?_)
  · replace hf := it_t c3 hf
    refine lv_goto (tgt := 5) hx hb dX11_wordAt_115 (by decide) ?_
    exact hr5 x1 x2 x3 x4 hf H locs ls hP hS (lv_sub hl [0, 1, 2, 3, 4] rfl)
  · replace hf := it_f c3 hf
    refine lv_iload hx hb dX11_wordAt_106 (lv_at hl 4 rfl) ?_
    refine lv_iconst (v := 1) hx hb dX11_wordAt_108 (by decide) ?_
    refine lv_iadd hx hb dX11_wordAt_109 ?_
    refine lv_istore (lv' := [(4, .int (x4 + 1)), (0, .ref (ea E 0)), (1, .int x1), (2, .int x2), (3, .int x3)]) hx hb dX11_wordAt_110 hl (by decide) rfl (fun ls hl => ?_)
    refine lv_goto (tgt := 94) hx hb dX11_wordAt_112 (by decide) ?_
    exact hr94 x1 x2 x3 (x4 + 1) hf H locs ls hP hS (lv_sub hl [1, 2, 3, 4, 0] rfl)
def fX11_wordAt_94 (σ : St) (rec5 : Int32 → Int32 → Int32 → Int32 → Option Int32) : Nat → Int32 → Int32 → Int32 → Int32 → Option Int32
  | 0 => fun _ _ _ _ => none
  | n + 1 => fun x1 x2 x3 x4 => fX11_wordAt_94B σ rec5 (fX11_wordAt_94 σ rec5 n) x1 x2 x3 x4
theorem b_fX11_wordAt_94 {E : Ev} {l : Launch} {p : Program} {e : Env} {s : State} {m : MethodId} {args : Array Value} {below : List Frame} {meth : Method} {c : Code} (σ : St) (C : CX false E RX11 cX11_wordAt 6 (some .int) p s m args meth c) {rr : Int32} (rec5 : Int32 → Int32 → Int32 → Int32 → Option Int32) (hr5 : ∀  (x1 : Int32) (x2 : Int32) (x3 : Int32) (x4 : Int32), rec5 x1 x2 x3 x4 = some rr → GW false l (rmD 1) E 6 p e s m args below meth c (MQ below (QI false E rr σ s.heap.size) args s 0 0 (aW false E s.heap.size)) σ 5 [(0, .ref (ea E 0)), (1, .int x1), (2, .int x2), (3, .int x3), (4, .int x4)] []) : ∀ (n : Nat) (x1 : Int32) (x2 : Int32) (x3 : Int32) (x4 : Int32), fX11_wordAt_94 σ rec5 n x1 x2 x3 x4 = some rr → GW false l (rmD 1) E 6 p e s m args below meth c (MQ below (QI false E rr σ s.heap.size) args s 0 0 (aW false E s.heap.size)) σ 94 [(0, .ref (ea E 0)), (1, .int x1), (2, .int x2), (3, .int x3), (4, .int x4)] [] := by
  intro n
  induction n with
  | zero => intro x1 x2 x3 x4 hf; have hf : (none : Option _) = some _ := hf; cases hf
  | succ n ih => intro x1 x2 x3 x4 hf; exact b_fX11_wordAt_94B σ C rec5 hr5 (fX11_wordAt_94 σ rec5 n) ih x1 x2 x3 x4 hf
def fX11_wordAt_61 (σ : St) (rec5 : Int32 → Int32 → Int32 → Int32 → Option Int32) (x1 : Int32) (x2 : Int32) (x3 : Int32) (x4 : Int32) (x5 : Int32) : Option Int32 :=
(if (x1 + x5) = x2 then
(rdK 134 (σ 14) ((x4 + 1) + x5) fun v2 =>
(if v2 = 32 then
some x3
else
fX11_wordAt_94 σ rec5 FU x1 x2 x3 (x4 + 1)))
else
fX11_wordAt_94 σ rec5 FU x1 x2 x3 (x4 + 1))
set_option maxHeartbeats 4000000 in
theorem b_fX11_wordAt_61 {E : Ev} {l : Launch} {p : Program} {e : Env} {s : State} {m : MethodId} {args : Array Value} {below : List Frame} {meth : Method} {c : Code} (σ : St) (C : CX false E RX11 cX11_wordAt 6 (some .int) p s m args meth c) {rr : Int32} (rec5 : Int32 → Int32 → Int32 → Int32 → Option Int32) (hr5 : ∀  (x1 : Int32) (x2 : Int32) (x3 : Int32) (x4 : Int32), rec5 x1 x2 x3 x4 = some rr → GW false l (rmD 1) E 6 p e s m args below meth c (MQ below (QI false E rr σ s.heap.size) args s 0 0 (aW false E s.heap.size)) σ 5 [(0, .ref (ea E 0)), (1, .int x1), (2, .int x2), (3, .int x3), (4, .int x4)] []) : ∀  (x1 : Int32) (x2 : Int32) (x3 : Int32) (x4 : Int32) (x5 : Int32), fX11_wordAt_61 σ rec5 x1 x2 x3 x4 x5 = some rr → GW false l (rmD 1) E 6 p e s m args below meth c (MQ below (QI false E rr σ s.heap.size) args s 0 0 (aW false E s.heap.size)) σ 61 [(0, .ref (ea E 0)), (1, .int x1), (2, .int x2), (3, .int x3), (4, .int x4), (5, .int x5)] [] := by
  intro x1 x2 x3 x4 x5 hf H locs ls hP hS hl
  obtain ⟨hx, hb, hr, hml, hown, hts, hlocks, hK, hX, hj⟩ := id C
  unfold fX11_wordAt_61 at hf
  refine lv_iload_n hx hb dX11_wordAt_61 rfl (lv_at hl 1 rfl) ?_
  refine lv_iload hx hb dX11_wordAt_62 (lv_at hl 5 rfl) ?_
  refine lv_iadd hx hb dX11_wordAt_64 ?_
  refine lv_iload_n hx hb dX11_wordAt_65 rfl (lv_at hl 2 rfl) ?_
  refine lv_icmp_ne (tgt := 88) hx hb dX11_wordAt_66 (by decide) (fun c1 => ?_) (fun c1 => ?_)
  · replace hf := it_f c1 hf
    refine lv_iload hx hb dX11_wordAt_88 (lv_at hl 4 rfl) ?_
    refine lv_iconst (v := 1) hx hb dX11_wordAt_90 (by decide) ?_
    refine lv_iadd hx hb dX11_wordAt_91 ?_
    refine lv_istore (lv' := [(4, .int (x4 + 1)), (0, .ref (ea E 0)), (1, .int x1), (2, .int x2), (3, .int x3), (5, .int x5)]) hx hb dX11_wordAt_92 hl (by decide) rfl (fun ls hl => ?_)
    exact b_fX11_wordAt_94 σ C rec5 hr5 FU x1 x2 x3 (x4 + 1) hf H locs ls hP hS (lv_sub hl [1, 2, 3, 4, 0] rfl)
  · replace hf := it_t c1 hf
    refine lv_aload_n hx hb dX11_wordAt_69 rfl (lv_at hl 0 rfl) ?_
    refine r_get (k := 23) (v := .ref (ea E 14)) C hP oM_0 rfl iX11 (by decide) wm_t1040 rfl rfl dX11_wordAt_70 ?_
    refine lv_iload hx hb dX11_wordAt_73 (lv_at hl 4 rfl) ?_
    refine lv_iconst (v := 1) hx hb dX11_wordAt_75 (by decide) ?_
    refine lv_iadd hx hb dX11_wordAt_76 ?_
    refine lv_iload hx hb dX11_wordAt_77 (lv_at hl 5 rfl) ?_
    refine lv_iadd hx hb dX11_wordAt_79 ?_
    have h3 := (rdK_e hf).1
    refine r_ald C hP aM_14 h3 dX11_wordAt_80 ?_
    refine lv_topi (fun v2 ev2 => ?_)
    replace hf := rdK_n ev2 hf
    refine lv_bipush (v := 32) hx hb dX11_wordAt_81 (by decide) ?_
    refine lv_icmp_ne (tgt := 88) hx hb dX11_wordAt_83 (by decide) (fun c4 => ?_) (fun c4 => ?_)
    · replace hf := it_f c4 hf
      refine lv_iload hx hb dX11_wordAt_88 (lv_at hl 4 rfl) ?_
      refine lv_iconst (v := 1) hx hb dX11_wordAt_90 (by decide) ?_
      refine lv_iadd hx hb dX11_wordAt_91 ?_
      refine lv_istore (lv' := [(4, .int (x4 + 1)), (0, .ref (ea E 0)), (1, .int x1), (2, .int x2), (3, .int x3), (5, .int x5)]) hx hb dX11_wordAt_92 hl (by decide) rfl (fun ls hl => ?_)
      exact b_fX11_wordAt_94 σ C rec5 hr5 FU x1 x2 x3 (x4 + 1) hf H locs ls hP hS (lv_sub hl [1, 2, 3, 4, 0] rfl)
    · replace hf := it_t c4 hf
      refine lv_iload_n hx hb dX11_wordAt_86 rfl (lv_at hl 3 rfl) ?_
      cases hf
      exact r_iret C hP hS dX11_wordAt_87
def fX11_wordAt_20B (σ : St) (rec5 : Int32 → Int32 → Int32 → Int32 → Option Int32) (rec20 : Int32 → Int32 → Int32 → Int32 → Int32 → Option Int32) (x1 : Int32) (x2 : Int32) (x3 : Int32) (x4 : Int32) (x5 : Int32) : Option Int32 :=
(if x2 ≤ (x1 + x5) then
fX11_wordAt_61 σ rec5 x1 x2 x3 x4 x5
else
(rdK 134 (σ 14) ((x4 + 1) + x5) fun v2 =>
(rdK 600 (σ 13) (x1 + x5) fun v4 =>
(if v2 = v4 then
rec20 x1 x2 x3 x4 (x5 + 1)
else
fX11_wordAt_61 σ rec5 x1 x2 x3 x4 x5))))
set_option maxHeartbeats 4000000 in
theorem b_fX11_wordAt_20B {E : Ev} {l : Launch} {p : Program} {e : Env} {s : State} {m : MethodId} {args : Array Value} {below : List Frame} {meth : Method} {c : Code} (σ : St) (C : CX false E RX11 cX11_wordAt 6 (some .int) p s m args meth c) {rr : Int32} (rec5 : Int32 → Int32 → Int32 → Int32 → Option Int32) (hr5 : ∀  (x1 : Int32) (x2 : Int32) (x3 : Int32) (x4 : Int32), rec5 x1 x2 x3 x4 = some rr → GW false l (rmD 1) E 6 p e s m args below meth c (MQ below (QI false E rr σ s.heap.size) args s 0 0 (aW false E s.heap.size)) σ 5 [(0, .ref (ea E 0)), (1, .int x1), (2, .int x2), (3, .int x3), (4, .int x4)] []) (rec20 : Int32 → Int32 → Int32 → Int32 → Int32 → Option Int32) (hr20 : ∀  (x1 : Int32) (x2 : Int32) (x3 : Int32) (x4 : Int32) (x5 : Int32), rec20 x1 x2 x3 x4 x5 = some rr → GW false l (rmD 1) E 6 p e s m args below meth c (MQ below (QI false E rr σ s.heap.size) args s 0 0 (aW false E s.heap.size)) σ 20 [(0, .ref (ea E 0)), (1, .int x1), (2, .int x2), (3, .int x3), (4, .int x4), (5, .int x5)] []) : ∀  (x1 : Int32) (x2 : Int32) (x3 : Int32) (x4 : Int32) (x5 : Int32), fX11_wordAt_20B σ rec5 rec20 x1 x2 x3 x4 x5 = some rr → GW false l (rmD 1) E 6 p e s m args below meth c (MQ below (QI false E rr σ s.heap.size) args s 0 0 (aW false E s.heap.size)) σ 20 [(0, .ref (ea E 0)), (1, .int x1), (2, .int x2), (3, .int x3), (4, .int x4), (5, .int x5)] [] := by
  intro x1 x2 x3 x4 x5 hf H locs ls hP hS hl
  obtain ⟨hx, hb, hr, hml, hown, hts, hlocks, hK, hX, hj⟩ := id C
  unfold fX11_wordAt_20B at hf
  refine lv_iload_n hx hb dX11_wordAt_20 rfl (lv_at hl 1 rfl) ?_
  refine lv_iload hx hb dX11_wordAt_21 (lv_at hl 5 rfl) ?_
  refine lv_iadd hx hb dX11_wordAt_23 ?_
  refine lv_iload_n hx hb dX11_wordAt_24 rfl (lv_at hl 2 rfl) ?_
  refine lv_icmp_ge (tgt := 61) hx hb dX11_wordAt_25 (by decide) (fun c1 => ?_) (fun c1 => ?_)
  · replace hf := it_t c1 hf
    exact b_fX11_wordAt_61 σ C rec5 hr5 x1 x2 x3 x4 x5 hf H locs ls hP hS (lv_sub hl [0, 1, 2, 3, 4, 5] rfl)
  · replace hf := it_f c1 hf
    refine lv_aload_n hx hb dX11_wordAt_28 rfl (lv_at hl 0 rfl) ?_
    refine r_get (k := 23) (v := .ref (ea E 14)) C hP oM_0 rfl iX11 (by decide) wm_t1040 rfl rfl dX11_wordAt_29 ?_
    refine lv_iload hx hb dX11_wordAt_32 (lv_at hl 4 rfl) ?_
    refine lv_iconst (v := 1) hx hb dX11_wordAt_34 (by decide) ?_
    refine lv_iadd hx hb dX11_wordAt_35 ?_
    refine lv_iload hx hb dX11_wordAt_36 (lv_at hl 5 rfl) ?_
    refine lv_iadd hx hb dX11_wordAt_38 ?_
    have h3 := (rdK_e hf).1
    refine r_ald C hP aM_14 h3 dX11_wordAt_39 ?_
    refine lv_topi (fun v2 ev2 => ?_)
    replace hf := rdK_n ev2 hf
    refine lv_aload_n hx hb dX11_wordAt_40 rfl (lv_at hl 0 rfl) ?_
    refine r_get (k := 17) (v := .ref (ea E 13)) C hP oM_0 rfl iX11 (by decide) wm_t1034 rfl rfl dX11_wordAt_41 ?_
    refine lv_iload_n hx hb dX11_wordAt_44 rfl (lv_at hl 1 rfl) ?_
    refine lv_iload hx hb dX11_wordAt_45 (lv_at hl 5 rfl) ?_
    refine lv_iadd hx hb dX11_wordAt_47 ?_
    have h5 := (rdK_e hf).1
    refine r_ald C hP aM_13 h5 dX11_wordAt_48 ?_
    refine lv_topi (fun v4 ev4 => ?_)
    replace hf := rdK_n ev4 hf
    refine lv_icmp_ne (tgt := 61) hx hb dX11_wordAt_49 (by decide) (fun c6 => ?_) (fun c6 => ?_)
    · replace hf := it_f c6 hf
      exact b_fX11_wordAt_61 σ C rec5 hr5 x1 x2 x3 x4 x5 hf H locs ls hP hS (lv_sub hl [0, 1, 2, 3, 4, 5] rfl)
    · replace hf := it_t c6 hf
      refine lv_iload hx hb dX11_wordAt_52 (lv_at hl 5 rfl) ?_
      refine lv_iconst (v := 1) hx hb dX11_wordAt_54 (by decide) ?_
      refine lv_iadd hx hb dX11_wordAt_55 ?_
      refine lv_istore (lv' := [(5, .int (x5 + 1)), (0, .ref (ea E 0)), (1, .int x1), (2, .int x2), (3, .int x3), (4, .int x4)]) hx hb dX11_wordAt_56 hl (by decide) rfl (fun ls hl => ?_)
      refine lv_goto (tgt := 20) hx hb dX11_wordAt_58 (by decide) ?_
      exact hr20 x1 x2 x3 x4 (x5 + 1) hf H locs ls hP hS (lv_sub hl [1, 2, 3, 4, 5, 0] rfl)
def fX11_wordAt_20 (σ : St) (rec5 : Int32 → Int32 → Int32 → Int32 → Option Int32) : Nat → Int32 → Int32 → Int32 → Int32 → Int32 → Option Int32
  | 0 => fun _ _ _ _ _ => none
  | n + 1 => fun x1 x2 x3 x4 x5 => fX11_wordAt_20B σ rec5 (fX11_wordAt_20 σ rec5 n) x1 x2 x3 x4 x5
theorem b_fX11_wordAt_20 {E : Ev} {l : Launch} {p : Program} {e : Env} {s : State} {m : MethodId} {args : Array Value} {below : List Frame} {meth : Method} {c : Code} (σ : St) (C : CX false E RX11 cX11_wordAt 6 (some .int) p s m args meth c) {rr : Int32} (rec5 : Int32 → Int32 → Int32 → Int32 → Option Int32) (hr5 : ∀  (x1 : Int32) (x2 : Int32) (x3 : Int32) (x4 : Int32), rec5 x1 x2 x3 x4 = some rr → GW false l (rmD 1) E 6 p e s m args below meth c (MQ below (QI false E rr σ s.heap.size) args s 0 0 (aW false E s.heap.size)) σ 5 [(0, .ref (ea E 0)), (1, .int x1), (2, .int x2), (3, .int x3), (4, .int x4)] []) : ∀ (n : Nat) (x1 : Int32) (x2 : Int32) (x3 : Int32) (x4 : Int32) (x5 : Int32), fX11_wordAt_20 σ rec5 n x1 x2 x3 x4 x5 = some rr → GW false l (rmD 1) E 6 p e s m args below meth c (MQ below (QI false E rr σ s.heap.size) args s 0 0 (aW false E s.heap.size)) σ 20 [(0, .ref (ea E 0)), (1, .int x1), (2, .int x2), (3, .int x3), (4, .int x4), (5, .int x5)] [] := by
  intro n
  induction n with
  | zero => intro x1 x2 x3 x4 x5 hf; have hf : (none : Option _) = some _ := hf; cases hf
  | succ n ih => intro x1 x2 x3 x4 x5 hf; exact b_fX11_wordAt_20B σ C rec5 hr5 (fX11_wordAt_20 σ rec5 n) ih x1 x2 x3 x4 x5 hf
def fX11_wordAt_5B (σ : St) (rec5 : Int32 → Int32 → Int32 → Int32 → Option Int32) (x1 : Int32) (x2 : Int32) (x3 : Int32) (x4 : Int32) : Option Int32 :=
(if 133 ≤ x4 then
some (-1)
else
fX11_wordAt_20 σ rec5 FU x1 x2 (x3 + 1) x4 0)
set_option maxHeartbeats 4000000 in
theorem b_fX11_wordAt_5B {E : Ev} {l : Launch} {p : Program} {e : Env} {s : State} {m : MethodId} {args : Array Value} {below : List Frame} {meth : Method} {c : Code} (σ : St) (C : CX false E RX11 cX11_wordAt 6 (some .int) p s m args meth c) {rr : Int32} (rec5 : Int32 → Int32 → Int32 → Int32 → Option Int32) (hr5 : ∀  (x1 : Int32) (x2 : Int32) (x3 : Int32) (x4 : Int32), rec5 x1 x2 x3 x4 = some rr → GW false l (rmD 1) E 6 p e s m args below meth c (MQ below (QI false E rr σ s.heap.size) args s 0 0 (aW false E s.heap.size)) σ 5 [(0, .ref (ea E 0)), (1, .int x1), (2, .int x2), (3, .int x3), (4, .int x4)] []) : ∀  (x1 : Int32) (x2 : Int32) (x3 : Int32) (x4 : Int32), fX11_wordAt_5B σ rec5 x1 x2 x3 x4 = some rr → GW false l (rmD 1) E 6 p e s m args below meth c (MQ below (QI false E rr σ s.heap.size) args s 0 0 (aW false E s.heap.size)) σ 5 [(0, .ref (ea E 0)), (1, .int x1), (2, .int x2), (3, .int x3), (4, .int x4)] [] := by
  intro x1 x2 x3 x4 hf H locs ls hP hS hl
  obtain ⟨hx, hb, hr, hml, hown, hts, hlocks, hK, hX, hj⟩ := id C
  unfold fX11_wordAt_5B at hf
  refine lv_iload hx hb dX11_wordAt_5 (lv_at hl 4 rfl) ?_
  refine lv_sipush (v := 133) hx hb dX11_wordAt_7 (by decide) ?_
  refine lv_icmp_ge (tgt := 118) hx hb dX11_wordAt_10 (by decide) (fun c1 => ?_) (fun c1 => ?_)
  · replace hf := it_t c1 hf
    refine lv_iconst (v := (-1)) hx hb dX11_wordAt_118 (by decide) ?_
    cases hf
    exact r_iret C hP hS dX11_wordAt_119
  · replace hf := it_f c1 hf
    refine lv_iconst (v := 0) hx hb dX11_wordAt_13 (by decide) ?_
    refine lv_istore (lv' := [(5, .int 0), (0, .ref (ea E 0)), (1, .int x1), (2, .int x2), (3, .int x3), (4, .int x4)]) hx hb dX11_wordAt_14 hl (by decide) rfl (fun ls hl => ?_)
    refine lv_iload_n hx hb dX11_wordAt_16 rfl (lv_at hl 4 rfl) ?_
    refine lv_iconst (v := 1) hx hb dX11_wordAt_17 (by decide) ?_
    refine lv_iadd hx hb dX11_wordAt_18 ?_
    refine lv_istore_n (lv' := [(3, .int (x3 + 1)), (5, .int 0), (0, .ref (ea E 0)), (1, .int x1), (2, .int x2), (4, .int x4)]) hx hb dX11_wordAt_19 rfl hl (by decide) rfl (fun ls hl => ?_)
    exact b_fX11_wordAt_20 σ C rec5 hr5 FU x1 x2 (x3 + 1) x4 0 hf H locs ls hP hS (lv_sub hl [2, 3, 4, 0, 5, 1] rfl)
def fX11_wordAt_5 (σ : St) : Nat → Int32 → Int32 → Int32 → Int32 → Option Int32
  | 0 => fun _ _ _ _ => none
  | n + 1 => fun x1 x2 x3 x4 => fX11_wordAt_5B σ (fX11_wordAt_5 σ n) x1 x2 x3 x4
theorem b_fX11_wordAt_5 {E : Ev} {l : Launch} {p : Program} {e : Env} {s : State} {m : MethodId} {args : Array Value} {below : List Frame} {meth : Method} {c : Code} (σ : St) (C : CX false E RX11 cX11_wordAt 6 (some .int) p s m args meth c) {rr : Int32} : ∀ (n : Nat) (x1 : Int32) (x2 : Int32) (x3 : Int32) (x4 : Int32), fX11_wordAt_5 σ n x1 x2 x3 x4 = some rr → GW false l (rmD 1) E 6 p e s m args below meth c (MQ below (QI false E rr σ s.heap.size) args s 0 0 (aW false E s.heap.size)) σ 5 [(0, .ref (ea E 0)), (1, .int x1), (2, .int x2), (3, .int x3), (4, .int x4)] [] := by
  intro n
  induction n with
  | zero => intro x1 x2 x3 x4 hf; have hf : (none : Option _) = some _ := hf; cases hf
  | succ n ih => intro x1 x2 x3 x4 hf; exact b_fX11_wordAt_5B σ C (fX11_wordAt_5 σ n) ih x1 x2 x3 x4 hf
def fX11_wordAt (σ : St) (a0 : Int32) (a1 : Int32) : Option Int32 :=
fX11_wordAt_5 σ FU a0 a1 (-1) 0
set_option maxHeartbeats 4000000 in
theorem c_fX11_wordAt {E : Ev} {l : Launch} (hj : jW false E) (σ : St) (sz : Nat) (a0 : Int32) (a1 : Int32) {rr : Int32} (hf : fX11_wordAt σ a0 a1 = some rr) : Met l yX11_wordAt (Cond.code yX11_wordAt cX11_wordAt 6 (some .int) :: gT) (rmD 1) (va_Pc [.ref (ea E 0), .int a0, .int a1] (preW false E σ sz)) (QI false E rr σ sz) 0 0 (aW false E sz) := by
  refine r_entry (QI false E rr σ) hj (by decide) [.ref (ea E 0), .int a0, .int a1] (Nat.le_of_ble_eq_true rfl) (fun p e s m args below meth c C => ?_)
  intro H locs ls hP hS hl
  have hl : lv_has ls 6 [(0, .ref (ea E 0)), (1, .int a0), (2, .int a1)] := hl
  obtain ⟨hx, hb, hr, hml, hown, hts, hlocks, hK, hX, hj⟩ := id C
  unfold fX11_wordAt at hf
  refine lv_iconst (v := (-1)) hx hb dX11_wordAt_0 (by decide) ?_
  refine lv_istore_n (lv' := [(3, .int (-1)), (0, .ref (ea E 0)), (1, .int a0), (2, .int a1)]) hx hb dX11_wordAt_1 rfl hl (by decide) rfl (fun ls hl => ?_)
  refine lv_iconst (v := 0) hx hb dX11_wordAt_2 (by decide) ?_
  refine lv_istore (lv' := [(4, .int 0), (3, .int (-1)), (0, .ref (ea E 0)), (1, .int a0), (2, .int a1)]) hx hb dX11_wordAt_3 hl (by decide) rfl (fun ls hl => ?_)
  exact b_fX11_wordAt_5 σ C FU a0 a1 (-1) 0 hf H locs ls hP hS (lv_sub hl [2, 3, 4, 1, 0] rfl)
def fX11_reads_26 (rec0 : St → Option St) (σ : St) : Option St :=
(nmS (st_put σ 0 19 ((σ 0 19) + 1)) fun σ1 =>
rec0 σ1)
set_option maxHeartbeats 4000000 in
theorem b_fX11_reads_26 {E : Ev} {l : Launch} {p : Program} {e : Env} {s : State} {m : MethodId} {args : Array Value} {below : List Frame} {meth : Method} {c : Code} (C : CX false E RX11 cX11_reads 2 none p s m args meth c) {sr : St} (rec0 : St → Option St) (hr0 : ∀ (σ : St), rec0 σ = some sr → GW false l (rmD 3) E 2 p e s m args below meth c (MQ below (QV false E sr s.heap.size) args s 0 0 (aW false E s.heap.size)) σ 0 [(0, .ref (ea E 0))] []) : ∀ (σ : St), fX11_reads_26 rec0 σ = some sr → GW false l (rmD 3) E 2 p e s m args below meth c (MQ below (QV false E sr s.heap.size) args s 0 0 (aW false E s.heap.size)) σ 26 [(0, .ref (ea E 0))] [] := by
  intro σ hf H locs ls hP hS hl
  obtain ⟨hx, hb, hr, hml, hown, hts, hlocks, hK, hX, hj⟩ := id C
  unfold fX11_reads_26 at hf
  refine lv_aload_n hx hb dX11_reads_26 rfl (lv_at hl 0 rfl) ?_
  refine lv_aload_n hx hb dX11_reads_27 rfl (lv_at hl 0 rfl) ?_
  refine r_get (k := 19) (v := .int (σ 0 19)) C hP oM_0 rfl iX11 (by decide) wm_t1036 rfl rfl dX11_reads_28 ?_
  refine lv_iconst (v := 1) hx hb dX11_reads_31 (by decide) ?_
  refine lv_iadd hx hb dX11_reads_32 ?_
  refine r_put (k := 19) (x := ((σ 0 19) + 1)) C hP hS tyX11 tyX11_ok nmX11 oM_0 rfl iX11 (by decide) wm_t1036 rfl rfl sM_0_19 rfl rfl (Nat.le_of_ble_eq_true rfl) dX11_reads_33 (fun H locs hP hS => ?_)
  obtain ⟨σ1, eσ1, hf⟩ := nmS_e hf
  rw [← eσ1] at hP
  refine lv_goto (tgt := 0) hx hb dX11_reads_36 (by decide) ?_
  exact hr0 σ1 hf H locs ls hP hS (lv_sub hl [0] rfl)
def fX11_reads_223 (rec171 : St → Option St) (σ : St) (y0 : Int32) : Option St :=
(nmS (st_put σ 0 22 y0) fun σ1 =>
(nmS (st_put σ1 0 19 ((σ1 0 19) + 1)) fun σ2 =>
rec171 σ2))
set_option maxHeartbeats 4000000 in
theorem b_fX11_reads_223 {E : Ev} {l : Launch} {p : Program} {e : Env} {s : State} {m : MethodId} {args : Array Value} {below : List Frame} {meth : Method} {c : Code} (C : CX false E RX11 cX11_reads 2 none p s m args meth c) {sr : St} (rec171 : St → Option St) (hr171 : ∀ (σ : St), rec171 σ = some sr → GW false l (rmD 3) E 2 p e s m args below meth c (MQ below (QV false E sr s.heap.size) args s 0 0 (aW false E s.heap.size)) σ 171 [(0, .ref (ea E 0))] []) : ∀ (σ : St) (y0 : Int32), fX11_reads_223 rec171 σ y0 = some sr → GW false l (rmD 3) E 2 p e s m args below meth c (MQ below (QV false E sr s.heap.size) args s 0 0 (aW false E s.heap.size)) σ 223 [(0, .ref (ea E 0))] [.int y0, .ref (ea E 0)] := by
  intro σ y0 hf H locs ls hP hS hl
  obtain ⟨hx, hb, hr, hml, hown, hts, hlocks, hK, hX, hj⟩ := id C
  unfold fX11_reads_223 at hf
  refine r_put (k := 22) (x := y0) C hP hS tyX11 tyX11_ok nmX11 oM_0 rfl iX11 (by decide) wm_t1039 rfl rfl sM_0_22 rfl rfl (Nat.le_of_ble_eq_true rfl) dX11_reads_223 (fun H locs hP hS => ?_)
  obtain ⟨σ1, eσ1, hf⟩ := nmS_e hf
  rw [← eσ1] at hP
  refine lv_aload_n hx hb dX11_reads_226 rfl (lv_at hl 0 rfl) ?_
  refine lv_aload_n hx hb dX11_reads_227 rfl (lv_at hl 0 rfl) ?_
  refine r_get (k := 19) (v := .int (σ1 0 19)) C hP oM_0 rfl iX11 (by decide) wm_t1036 rfl rfl dX11_reads_228 ?_
  refine lv_iconst (v := 1) hx hb dX11_reads_231 (by decide) ?_
  refine lv_iadd hx hb dX11_reads_232 ?_
  refine r_put (k := 19) (x := ((σ1 0 19) + 1)) C hP hS tyX11 tyX11_ok nmX11 oM_0 rfl iX11 (by decide) wm_t1036 rfl rfl sM_0_19 rfl rfl (Nat.le_of_ble_eq_true rfl) dX11_reads_233 (fun H locs hP hS => ?_)
  obtain ⟨σ2, eσ2, hf⟩ := nmS_e hf
  rw [← eσ2] at hP
  refine lv_goto (tgt := 171) hx hb dX11_reads_236 (by decide) ?_
  exact hr171 σ2 hf H locs ls hP hS (lv_sub hl [0] rfl)
def fX11_reads_171B (rec171 : St → Option St) (σ : St) : Option St :=
(cq (fX11_raw σ (σ 0 19)) fun r1 =>
(if (fX11_isDigit r1) = 0 then
(if 5 ≤ ((σ 0 19) - (σ 0 20)) then
some σ
else
(nmS (st_put σ 0 21 3) fun σ5 =>
some σ5))
else
(if 10000 ≤ (σ 0 22) then
fX11_reads_223 rec171 σ (σ 0 22)
else
(cq (fX11_raw σ (σ 0 19)) fun r7 =>
fX11_reads_223 rec171 σ (((10 * (σ 0 22)) + r7) - 48)))))
set_option maxHeartbeats 4000000 in
theorem b_fX11_reads_171B {E : Ev} {l : Launch} {p : Program} {e : Env} {s : State} {m : MethodId} {args : Array Value} {below : List Frame} {meth : Method} {c : Code} (C : CX false E RX11 cX11_reads 2 none p s m args meth c) {sr : St} (rec171 : St → Option St) (hr171 : ∀ (σ : St), rec171 σ = some sr → GW false l (rmD 3) E 2 p e s m args below meth c (MQ below (QV false E sr s.heap.size) args s 0 0 (aW false E s.heap.size)) σ 171 [(0, .ref (ea E 0))] []) : ∀ (σ : St), fX11_reads_171B rec171 σ = some sr → GW false l (rmD 3) E 2 p e s m args below meth c (MQ below (QV false E sr s.heap.size) args s 0 0 (aW false E s.heap.size)) σ 171 [(0, .ref (ea E 0))] [] := by
  intro σ hf H locs ls hP hS hl
  obtain ⟨hx, hb, hr, hml, hown, hts, hlocks, hK, hX, hj⟩ := id C
  unfold fX11_reads_171B at hf
  refine lv_aload_n hx hb dX11_reads_171 rfl (lv_at hl 0 rfl) ?_
  refine lv_aload_n hx hb dX11_reads_172 rfl (lv_at hl 0 rfl) ?_
  refine lv_aload_n hx hb dX11_reads_173 rfl (lv_at hl 0 rfl) ?_
  refine r_get (k := 19) (v := .int (σ 0 19)) C hP oM_0 rfl iX11 (by decide) wm_t1036 rfl rfl dX11_reads_174 ?_
  obtain ⟨r1, hc2, hf⟩ := cq_e hf
  refine r_cVi (n := 1) (As := [.int (σ 0 19)]) (rest := [.ref (ea E 0)]) C (c_fX11_raw hj σ H.size (σ 0 19) hc2) oM_0 rfl gv_RX11_172 (by decide +kernel) (rmD_le (by decide) (by decide)) rfl rfl (Nat.le_of_ble_eq_true rfl) dX11_reads_177 hP hS hl.1 (fun H locs hP hS => ?_)
  refine r_cVi (n := 1) (As := [.int r1]) (rest := []) C (c_fX11_isDigit hj σ H.size r1) oM_0 rfl gv_RX11_192 (by decide +kernel) (rmD_le (by decide) (by decide)) rfl rfl (Nat.le_of_ble_eq_true rfl) dX11_reads_180 hP hS hl.1 (fun H locs hP hS => ?_)
  refine lv_if_eq (tgt := 239) hx hb dX11_reads_183 (by decide) (fun c3 => ?_) (fun c3 => ?_)
  · replace hf := it_t c3 hf
    refine lv_aload_n hx hb dX11_reads_239 rfl (lv_at hl 0 rfl) ?_
    refine r_get (k := 19) (v := .int (σ 0 19)) C hP oM_0 rfl iX11 (by decide) wm_t1036 rfl rfl dX11_reads_240 ?_
    refine lv_aload_n hx hb dX11_reads_243 rfl (lv_at hl 0 rfl) ?_
    refine r_get (k := 20) (v := .int (σ 0 20)) C hP oM_0 rfl iX11 (by decide) wm_t1037 rfl rfl dX11_reads_244 ?_
    refine lv_isub hx hb dX11_reads_247 ?_
    refine lv_iconst (v := 5) hx hb dX11_reads_248 (by decide) ?_
    refine lv_icmp_ge (tgt := 273) hx hb dX11_reads_249 (by decide) (fun c4 => ?_) (fun c4 => ?_)
    · replace hf := it_t c4 hf
      cases hf
      exact r_vret C hP hS dX11_reads_273
    · replace hf := it_f c4 hf
      refine lv_aload_n hx hb dX11_reads_252 rfl (lv_at hl 0 rfl) ?_
      refine lv_iconst (v := 3) hx hb dX11_reads_253 (by decide) ?_
      refine r_put (k := 21) (x := 3) C hP hS tyX11 tyX11_ok nmX11 oM_0 rfl iX11 (by decide) wm_t1038 rfl rfl sM_0_21 rfl rfl (Nat.le_of_ble_eq_true rfl) dX11_reads_254 (fun H locs hP hS => ?_)
      obtain ⟨σ5, eσ5, hf⟩ := nmS_e hf
      rw [← eσ5] at hP
      refine lv_goto (tgt := 273) hx hb dX11_reads_257 (by decide) ?_
      cases hf
      exact r_vret C hP hS dX11_reads_273
  · replace hf := it_f c3 hf
    refine lv_aload_n hx hb dX11_reads_186 rfl (lv_at hl 0 rfl) ?_
    refine lv_aload_n hx hb dX11_reads_187 rfl (lv_at hl 0 rfl) ?_
    refine r_get (k := 22) (v := .int (σ 0 22)) C hP oM_0 rfl iX11 (by decide) wm_t1039 rfl rfl dX11_reads_188 ?_
    refine lv_sipush (v := 10000) hx hb dX11_reads_191 (by decide) ?_
    refine lv_icmp_ge (tgt := 219) hx hb dX11_reads_194 (by decide) (fun c6 => ?_) (fun c6 => ?_)
    · replace hf := it_t c6 hf
      refine lv_aload_n hx hb dX11_reads_219 rfl (lv_at hl 0 rfl) ?_
      refine r_get (k := 22) (v := .int (σ 0 22)) C hP oM_0 rfl iX11 (by decide) wm_t1039 rfl rfl dX11_reads_220 ?_
      exact b_fX11_reads_223 C rec171 hr171 σ (σ 0 22) hf H locs ls hP hS (lv_sub hl [0] rfl)
    · replace hf := it_f c6 hf
      refine lv_bipush (v := 10) hx hb dX11_reads_197 (by decide) ?_
      refine lv_aload_n hx hb dX11_reads_199 rfl (lv_at hl 0 rfl) ?_
      refine r_get (k := 22) (v := .int (σ 0 22)) C hP oM_0 rfl iX11 (by decide) wm_t1039 rfl rfl dX11_reads_200 ?_
      refine lv_imul hx hb dX11_reads_203 ?_
      refine lv_aload_n hx hb dX11_reads_204 rfl (lv_at hl 0 rfl) ?_
      refine lv_aload_n hx hb dX11_reads_205 rfl (lv_at hl 0 rfl) ?_
      refine r_get (k := 19) (v := .int (σ 0 19)) C hP oM_0 rfl iX11 (by decide) wm_t1036 rfl rfl dX11_reads_206 ?_
      obtain ⟨r7, hc8, hf⟩ := cq_e hf
      refine r_cVi (n := 1) (As := [.int (σ 0 19)]) (rest := [.int (10 * (σ 0 22)), .ref (ea E 0)]) C (c_fX11_raw hj σ H.size (σ 0 19) hc8) oM_0 rfl gv_RX11_172 (by decide +kernel) (rmD_le (by decide) (by decide)) rfl rfl (Nat.le_of_ble_eq_true rfl) dX11_reads_209 hP hS hl.1 (fun H locs hP hS => ?_)
      refine lv_iadd hx hb dX11_reads_212 ?_
      refine lv_bipush (v := 48) hx hb dX11_reads_213 (by decide) ?_
      refine lv_isub hx hb dX11_reads_215 ?_
      refine lv_goto (tgt := 223) hx hb dX11_reads_216 (by decide) ?_
      exact b_fX11_reads_223 C rec171 hr171 σ (((10 * (σ 0 22)) + r7) - 48) hf H locs ls hP hS (lv_sub hl [0] rfl)
def fX11_reads_171 : Nat → St → Option St
  | 0 => fun _ => none
  | n + 1 => fun σ => fX11_reads_171B (fX11_reads_171 n) σ
theorem b_fX11_reads_171 {E : Ev} {l : Launch} {p : Program} {e : Env} {s : State} {m : MethodId} {args : Array Value} {below : List Frame} {meth : Method} {c : Code} (C : CX false E RX11 cX11_reads 2 none p s m args meth c) {sr : St} : ∀ (n : Nat) (σ : St), fX11_reads_171 n σ = some sr → GW false l (rmD 3) E 2 p e s m args below meth c (MQ below (QV false E sr s.heap.size) args s 0 0 (aW false E s.heap.size)) σ 171 [(0, .ref (ea E 0))] [] := by
  intro n
  induction n with
  | zero => intro σ hf; have hf : (none : Option _) = some _ := hf; cases hf
  | succ n ih => intro σ hf; exact b_fX11_reads_171B C (fX11_reads_171 n) ih σ hf
def fX11_reads_95B (rec95 : St → Option St) (σ : St) : Option St :=
(cq (fX11_raw σ (σ 0 19)) fun r1 =>
(if (fX11_isLetter r1) = 0 then
(cq (fX11_wordAt σ (σ 0 20) (σ 0 19)) fun r4 =>
(nmS (st_put σ 0 22 r4) fun σ6 =>
(if (σ6 0 22) = (-1) then
some σ6
else
(nmS (st_put σ6 0 21 2) fun σ8 =>
some σ8))))
else
(nmS (st_put σ 0 19 ((σ 0 19) + 1)) fun σ9 =>
rec95 σ9)))
set_option maxHeartbeats 4000000 in
theorem b_fX11_reads_95B {E : Ev} {l : Launch} {p : Program} {e : Env} {s : State} {m : MethodId} {args : Array Value} {below : List Frame} {meth : Method} {c : Code} (C : CX false E RX11 cX11_reads 2 none p s m args meth c) {sr : St} (rec95 : St → Option St) (hr95 : ∀ (σ : St), rec95 σ = some sr → GW false l (rmD 3) E 2 p e s m args below meth c (MQ below (QV false E sr s.heap.size) args s 0 0 (aW false E s.heap.size)) σ 95 [(0, .ref (ea E 0))] []) : ∀ (σ : St), fX11_reads_95B rec95 σ = some sr → GW false l (rmD 3) E 2 p e s m args below meth c (MQ below (QV false E sr s.heap.size) args s 0 0 (aW false E s.heap.size)) σ 95 [(0, .ref (ea E 0))] [] := by
  intro σ hf H locs ls hP hS hl
  obtain ⟨hx, hb, hr, hml, hown, hts, hlocks, hK, hX, hj⟩ := id C
  unfold fX11_reads_95B at hf
  refine lv_aload_n hx hb dX11_reads_95 rfl (lv_at hl 0 rfl) ?_
  refine lv_aload_n hx hb dX11_reads_96 rfl (lv_at hl 0 rfl) ?_
  refine lv_aload_n hx hb dX11_reads_97 rfl (lv_at hl 0 rfl) ?_
  refine r_get (k := 19) (v := .int (σ 0 19)) C hP oM_0 rfl iX11 (by decide) wm_t1036 rfl rfl dX11_reads_98 ?_
  obtain ⟨r1, hc2, hf⟩ := cq_e hf
  refine r_cVi (n := 1) (As := [.int (σ 0 19)]) (rest := [.ref (ea E 0)]) C (c_fX11_raw hj σ H.size (σ 0 19) hc2) oM_0 rfl gv_RX11_172 (by decide +kernel) (rmD_le (by decide) (by decide)) rfl rfl (Nat.le_of_ble_eq_true rfl) dX11_reads_101 hP hS hl.1 (fun H locs hP hS => ?_)
  refine r_cVi (n := 1) (As := [.int r1]) (rest := []) C (c_fX11_isLetter hj σ H.size r1) oM_0 rfl gv_RX11_185 (by decide +kernel) (rmD_le (by decide) (by decide)) rfl rfl (Nat.le_of_ble_eq_true rfl) dX11_reads_104 hP hS hl.1 (fun H locs hP hS => ?_)
  refine lv_if_eq (tgt := 123) hx hb dX11_reads_107 (by decide) (fun c3 => ?_) (fun c3 => ?_)
  · replace hf := it_t c3 hf
    refine lv_aload_n hx hb dX11_reads_123 rfl (lv_at hl 0 rfl) ?_
    refine lv_aload_n hx hb dX11_reads_124 rfl (lv_at hl 0 rfl) ?_
    refine lv_aload_n hx hb dX11_reads_125 rfl (lv_at hl 0 rfl) ?_
    refine r_get (k := 20) (v := .int (σ 0 20)) C hP oM_0 rfl iX11 (by decide) wm_t1037 rfl rfl dX11_reads_126 ?_
    refine lv_aload_n hx hb dX11_reads_129 rfl (lv_at hl 0 rfl) ?_
    refine r_get (k := 19) (v := .int (σ 0 19)) C hP oM_0 rfl iX11 (by decide) wm_t1036 rfl rfl dX11_reads_130 ?_
    obtain ⟨r4, hc5, hf⟩ := cq_e hf
    refine r_cVi (n := 2) (As := [.int (σ 0 20), .int (σ 0 19)]) (rest := [.ref (ea E 0)]) C (c_fX11_wordAt hj σ H.size (σ 0 20) (σ 0 19) hc5) oM_0 rfl gv_RX11_189 (by decide +kernel) (rmD_le (by decide) (by decide)) rfl rfl (Nat.le_of_ble_eq_true rfl) dX11_reads_133 hP hS hl.1 (fun H locs hP hS => ?_)
    refine r_put (k := 22) (x := r4) C hP hS tyX11 tyX11_ok nmX11 oM_0 rfl iX11 (by decide) wm_t1039 rfl rfl sM_0_22 rfl rfl (Nat.le_of_ble_eq_true rfl) dX11_reads_136 (fun H locs hP hS => ?_)
    obtain ⟨σ6, eσ6, hf⟩ := nmS_e hf
    rw [← eσ6] at hP
    refine lv_aload_n hx hb dX11_reads_139 rfl (lv_at hl 0 rfl) ?_
    refine r_get (k := 22) (v := .int (σ6 0 22)) C hP oM_0 rfl iX11 (by decide) wm_t1039 rfl rfl dX11_reads_140 ?_
    refine lv_iconst (v := (-1)) hx hb dX11_reads_143 (by decide) ?_
    refine lv_icmp_eq (tgt := 273) hx hb dX11_reads_144 (by decide) (fun c7 => ?_) (fun c7 => ?_)
    · replace hf := it_t c7 hf
      cases hf
      exact r_vret C hP hS dX11_reads_273
    · replace hf := it_f c7 hf
      refine lv_aload_n hx hb dX11_reads_147 rfl (lv_at hl 0 rfl) ?_
      refine lv_iconst (v := 2) hx hb dX11_reads_148 (by decide) ?_
      refine r_put (k := 21) (x := 2) C hP hS tyX11 tyX11_ok nmX11 oM_0 rfl iX11 (by decide) wm_t1038 rfl rfl sM_0_21 rfl rfl (Nat.le_of_ble_eq_true rfl) dX11_reads_149 (fun H locs hP hS => ?_)
      obtain ⟨σ8, eσ8, hf⟩ := nmS_e hf
      rw [← eσ8] at hP
      refine lv_goto (tgt := 273) hx hb dX11_reads_152 (by decide) ?_
      cases hf
      exact r_vret C hP hS dX11_reads_273
  · replace hf := it_f c3 hf
    refine lv_aload_n hx hb dX11_reads_110 rfl (lv_at hl 0 rfl) ?_
    refine lv_aload_n hx hb dX11_reads_111 rfl (lv_at hl 0 rfl) ?_
    refine r_get (k := 19) (v := .int (σ 0 19)) C hP oM_0 rfl iX11 (by decide) wm_t1036 rfl rfl dX11_reads_112 ?_
    refine lv_iconst (v := 1) hx hb dX11_reads_115 (by decide) ?_
    refine lv_iadd hx hb dX11_reads_116 ?_
    refine r_put (k := 19) (x := ((σ 0 19) + 1)) C hP hS tyX11 tyX11_ok nmX11 oM_0 rfl iX11 (by decide) wm_t1036 rfl rfl sM_0_19 rfl rfl (Nat.le_of_ble_eq_true rfl) dX11_reads_117 (fun H locs hP hS => ?_)
    obtain ⟨σ9, eσ9, hf⟩ := nmS_e hf
    rw [← eσ9] at hP
    refine lv_goto (tgt := 95) hx hb dX11_reads_120 (by decide) ?_
    exact hr95 σ9 hf H locs ls hP hS (lv_sub hl [0] rfl)
def fX11_reads_95 : Nat → St → Option St
  | 0 => fun _ => none
  | n + 1 => fun σ => fX11_reads_95B (fX11_reads_95 n) σ
theorem b_fX11_reads_95 {E : Ev} {l : Launch} {p : Program} {e : Env} {s : State} {m : MethodId} {args : Array Value} {below : List Frame} {meth : Method} {c : Code} (C : CX false E RX11 cX11_reads 2 none p s m args meth c) {sr : St} : ∀ (n : Nat) (σ : St), fX11_reads_95 n σ = some sr → GW false l (rmD 3) E 2 p e s m args below meth c (MQ below (QV false E sr s.heap.size) args s 0 0 (aW false E s.heap.size)) σ 95 [(0, .ref (ea E 0))] [] := by
  intro n
  induction n with
  | zero => intro σ hf; have hf : (none : Option _) = some _ := hf; cases hf
  | succ n ih => intro σ hf; exact b_fX11_reads_95B C (fX11_reads_95 n) ih σ hf
def fX11_reads_0B (rec0 : St → Option St) (σ : St) : Option St :=
(cq (fX11_raw σ (σ 0 19)) fun r1 =>
(if r1 = 32 then
fX11_reads_26 rec0 σ
else
(cq (fX11_raw σ (σ 0 19)) fun r4 =>
(if r4 = 10 then
fX11_reads_26 rec0 σ
else
(nmS (st_put σ 0 20 (σ 0 19)) fun σ7 =>
(nmS (st_put σ7 0 21 1) fun σ8 =>
(cq (fX11_raw σ8 (σ8 0 19)) fun r9 =>
(if r9 = (-1) then
(nmS (st_put σ8 0 21 0) fun σ19 =>
some σ19)
else
(nmS (st_put σ8 0 19 ((σ8 0 19) + 1)) fun σ12 =>
(nmS (st_put σ12 0 22 r9) fun σ13 =>
(if (fX11_isLetter r9) = 0 then
(if (fX11_isDigit r9) = 0 then
(if (fX11_isMarkSign r9) = 0 then
some σ13
else
(nmS (st_put σ13 0 21 4) fun σ17 =>
some σ17))
else
(nmS (st_put σ13 0 22 (r9 - 48)) fun σ18 =>
fX11_reads_171 FU σ18))
else
fX11_reads_95 FU σ13)))))))))))
set_option maxHeartbeats 4000000 in
theorem b_fX11_reads_0B {E : Ev} {l : Launch} {p : Program} {e : Env} {s : State} {m : MethodId} {args : Array Value} {below : List Frame} {meth : Method} {c : Code} (C : CX false E RX11 cX11_reads 2 none p s m args meth c) {sr : St} (rec0 : St → Option St) (hr0 : ∀ (σ : St), rec0 σ = some sr → GW false l (rmD 3) E 2 p e s m args below meth c (MQ below (QV false E sr s.heap.size) args s 0 0 (aW false E s.heap.size)) σ 0 [(0, .ref (ea E 0))] []) : ∀ (σ : St), fX11_reads_0B rec0 σ = some sr → GW false l (rmD 3) E 2 p e s m args below meth c (MQ below (QV false E sr s.heap.size) args s 0 0 (aW false E s.heap.size)) σ 0 [(0, .ref (ea E 0))] [] := by
  intro σ hf H locs ls hP hS hl
  obtain ⟨hx, hb, hr, hml, hown, hts, hlocks, hK, hX, hj⟩ := id C
  unfold fX11_reads_0B at hf
  refine lv_aload_n hx hb dX11_reads_0 rfl (lv_at hl 0 rfl) ?_
  refine lv_aload_n hx hb dX11_reads_1 rfl (lv_at hl 0 rfl) ?_
  refine r_get (k := 19) (v := .int (σ 0 19)) C hP oM_0 rfl iX11 (by decide) wm_t1036 rfl rfl dX11_reads_2 ?_
  obtain ⟨r1, hc2, hf⟩ := cq_e hf
  refine r_cVi (n := 1) (As := [.int (σ 0 19)]) (rest := []) C (c_fX11_raw hj σ H.size (σ 0 19) hc2) oM_0 rfl gv_RX11_172 (by decide +kernel) (rmD_le (by decide) (by decide)) rfl rfl (Nat.le_of_ble_eq_true rfl) dX11_reads_5 hP hS hl.1 (fun H locs hP hS => ?_)
  refine lv_bipush (v := 32) hx hb dX11_reads_8 (by decide) ?_
  refine lv_icmp_eq (tgt := 26) hx hb dX11_reads_10 (by decide) (fun c3 => ?_) (fun c3 => ?_)
  · replace hf := it_t c3 hf
    exact b_fX11_reads_26 C rec0 hr0 σ hf H locs ls hP hS (lv_sub hl [0] rfl)
  · replace hf := it_f c3 hf
    refine lv_aload_n hx hb dX11_reads_13 rfl (lv_at hl 0 rfl) ?_
    refine lv_aload_n hx hb dX11_reads_14 rfl (lv_at hl 0 rfl) ?_
    refine r_get (k := 19) (v := .int (σ 0 19)) C hP oM_0 rfl iX11 (by decide) wm_t1036 rfl rfl dX11_reads_15 ?_
    obtain ⟨r4, hc5, hf⟩ := cq_e hf
    refine r_cVi (n := 1) (As := [.int (σ 0 19)]) (rest := []) C (c_fX11_raw hj σ H.size (σ 0 19) hc5) oM_0 rfl gv_RX11_172 (by decide +kernel) (rmD_le (by decide) (by decide)) rfl rfl (Nat.le_of_ble_eq_true rfl) dX11_reads_18 hP hS hl.1 (fun H locs hP hS => ?_)
    refine lv_bipush (v := 10) hx hb dX11_reads_21 (by decide) ?_
    refine lv_icmp_ne (tgt := 39) hx hb dX11_reads_23 (by decide) (fun c6 => ?_) (fun c6 => ?_)
    · replace hf := it_f c6 hf
      refine lv_aload_n hx hb dX11_reads_39 rfl (lv_at hl 0 rfl) ?_
      refine lv_aload_n hx hb dX11_reads_40 rfl (lv_at hl 0 rfl) ?_
      refine r_get (k := 19) (v := .int (σ 0 19)) C hP oM_0 rfl iX11 (by decide) wm_t1036 rfl rfl dX11_reads_41 ?_
      refine r_put (k := 20) (x := (σ 0 19)) C hP hS tyX11 tyX11_ok nmX11 oM_0 rfl iX11 (by decide) wm_t1037 rfl rfl sM_0_20 rfl rfl (Nat.le_of_ble_eq_true rfl) dX11_reads_44 (fun H locs hP hS => ?_)
      obtain ⟨σ7, eσ7, hf⟩ := nmS_e hf
      rw [← eσ7] at hP
      refine lv_aload_n hx hb dX11_reads_47 rfl (lv_at hl 0 rfl) ?_
      refine lv_iconst (v := 1) hx hb dX11_reads_48 (by decide) ?_
      refine r_put (k := 21) (x := 1) C hP hS tyX11 tyX11_ok nmX11 oM_0 rfl iX11 (by decide) wm_t1038 rfl rfl sM_0_21 rfl rfl (Nat.le_of_ble_eq_true rfl) dX11_reads_49 (fun H locs hP hS => ?_)
      obtain ⟨σ8, eσ8, hf⟩ := nmS_e hf
      rw [← eσ8] at hP
      refine lv_aload_n hx hb dX11_reads_52 rfl (lv_at hl 0 rfl) ?_
      refine lv_aload_n hx hb dX11_reads_53 rfl (lv_at hl 0 rfl) ?_
      refine r_get (k := 19) (v := .int (σ8 0 19)) C hP oM_0 rfl iX11 (by decide) wm_t1036 rfl rfl dX11_reads_54 ?_
      obtain ⟨r9, hc10, hf⟩ := cq_e hf
      refine r_cVi (n := 1) (As := [.int (σ8 0 19)]) (rest := []) C (c_fX11_raw hj σ8 H.size (σ8 0 19) hc10) oM_0 rfl gv_RX11_172 (by decide +kernel) (rmD_le (by decide) (by decide)) rfl rfl (Nat.le_of_ble_eq_true rfl) dX11_reads_57 hP hS hl.1 (fun H locs hP hS => ?_)
      refine lv_istore_n (lv' := [(1, .int r9), (0, .ref (ea E 0))]) hx hb dX11_reads_60 rfl hl (by decide) rfl (fun ls hl => ?_)
      refine lv_iload_n hx hb dX11_reads_61 rfl (lv_at hl 0 rfl) ?_
      refine lv_iconst (v := (-1)) hx hb dX11_reads_62 (by decide) ?_
      refine lv_icmp_ne (tgt := 72) hx hb dX11_reads_63 (by decide) (fun c11 => ?_) (fun c11 => ?_)
      · replace hf := it_f c11 hf
        refine lv_aload_n hx hb dX11_reads_72 rfl (lv_at hl 1 rfl) ?_
        refine lv_aload_n hx hb dX11_reads_73 rfl (lv_at hl 1 rfl) ?_
        refine r_get (k := 19) (v := .int (σ8 0 19)) C hP oM_0 rfl iX11 (by decide) wm_t1036 rfl rfl dX11_reads_74 ?_
        refine lv_iconst (v := 1) hx hb dX11_reads_77 (by decide) ?_
        refine lv_iadd hx hb dX11_reads_78 ?_
        refine r_put (k := 19) (x := ((σ8 0 19) + 1)) C hP hS tyX11 tyX11_ok nmX11 oM_0 rfl iX11 (by decide) wm_t1036 rfl rfl sM_0_19 rfl rfl (Nat.le_of_ble_eq_true rfl) dX11_reads_79 (fun H locs hP hS => ?_)
        obtain ⟨σ12, eσ12, hf⟩ := nmS_e hf
        rw [← eσ12] at hP
        refine lv_aload_n hx hb dX11_reads_82 rfl (lv_at hl 1 rfl) ?_
        refine lv_iload_n hx hb dX11_reads_83 rfl (lv_at hl 0 rfl) ?_
        refine r_put (k := 22) (x := r9) C hP hS tyX11 tyX11_ok nmX11 oM_0 rfl iX11 (by decide) wm_t1039 rfl rfl sM_0_22 rfl rfl (Nat.le_of_ble_eq_true rfl) dX11_reads_84 (fun H locs hP hS => ?_)
        obtain ⟨σ13, eσ13, hf⟩ := nmS_e hf
        rw [← eσ13] at hP
        refine lv_aload_n hx hb dX11_reads_87 rfl (lv_at hl 1 rfl) ?_
        refine lv_iload_n hx hb dX11_reads_88 rfl (lv_at hl 0 rfl) ?_
        refine r_cVi (n := 1) (As := [.int r9]) (rest := []) C (c_fX11_isLetter hj σ13 H.size r9) oM_0 rfl gv_RX11_185 (by decide +kernel) (rmD_le (by decide) (by decide)) rfl rfl (Nat.le_of_ble_eq_true rfl) dX11_reads_89 hP hS hl.1 (fun H locs hP hS => ?_)
        refine lv_if_eq (tgt := 155) hx hb dX11_reads_92 (by decide) (fun c14 => ?_) (fun c14 => ?_)
        · replace hf := it_t c14 hf
          refine lv_aload_n hx hb dX11_reads_155 rfl (lv_at hl 1 rfl) ?_
          refine lv_iload_n hx hb dX11_reads_156 rfl (lv_at hl 0 rfl) ?_
          refine r_cVi (n := 1) (As := [.int r9]) (rest := []) C (c_fX11_isDigit hj σ13 H.size r9) oM_0 rfl gv_RX11_192 (by decide +kernel) (rmD_le (by decide) (by decide)) rfl rfl (Nat.le_of_ble_eq_true rfl) dX11_reads_157 hP hS hl.1 (fun H locs hP hS => ?_)
          refine lv_if_eq (tgt := 260) hx hb dX11_reads_160 (by decide) (fun c15 => ?_) (fun c15 => ?_)
          · replace hf := it_t c15 hf
            refine lv_aload_n hx hb dX11_reads_260 rfl (lv_at hl 1 rfl) ?_
            refine lv_iload_n hx hb dX11_reads_261 rfl (lv_at hl 0 rfl) ?_
            refine r_cVi (n := 1) (As := [.int r9]) (rest := []) C (c_fX11_isMarkSign hj σ13 H.size r9) oM_0 rfl gv_RX11_195 (by decide +kernel) (rmD_le (by decide) (by decide)) rfl rfl (Nat.le_of_ble_eq_true rfl) dX11_reads_262 hP hS hl.1 (fun H locs hP hS => ?_)
            refine lv_if_eq (tgt := 273) hx hb dX11_reads_265 (by decide) (fun c16 => ?_) (fun c16 => ?_)
            · replace hf := it_t c16 hf
              cases hf
              exact r_vret C hP hS dX11_reads_273
            · replace hf := it_f c16 hf
              refine lv_aload_n hx hb dX11_reads_268 rfl (lv_at hl 1 rfl) ?_
              refine lv_iconst (v := 4) hx hb dX11_reads_269 (by decide) ?_
              refine r_put (k := 21) (x := 4) C hP hS tyX11 tyX11_ok nmX11 oM_0 rfl iX11 (by decide) wm_t1038 rfl rfl sM_0_21 rfl rfl (Nat.le_of_ble_eq_true rfl) dX11_reads_270 (fun H locs hP hS => ?_)
              obtain ⟨σ17, eσ17, hf⟩ := nmS_e hf
              rw [← eσ17] at hP
              cases hf
              exact r_vret C hP hS dX11_reads_273
          · replace hf := it_f c15 hf
            refine lv_aload_n hx hb dX11_reads_163 rfl (lv_at hl 1 rfl) ?_
            refine lv_iload_n hx hb dX11_reads_164 rfl (lv_at hl 0 rfl) ?_
            refine lv_bipush (v := 48) hx hb dX11_reads_165 (by decide) ?_
            refine lv_isub hx hb dX11_reads_167 ?_
            refine r_put (k := 22) (x := (r9 - 48)) C hP hS tyX11 tyX11_ok nmX11 oM_0 rfl iX11 (by decide) wm_t1039 rfl rfl sM_0_22 rfl rfl (Nat.le_of_ble_eq_true rfl) dX11_reads_168 (fun H locs hP hS => ?_)
            obtain ⟨σ18, eσ18, hf⟩ := nmS_e hf
            rw [← eσ18] at hP
            exact b_fX11_reads_171 C FU σ18 hf H locs ls hP hS (lv_sub hl [1] rfl)
        · replace hf := it_f c14 hf
          exact b_fX11_reads_95 C FU σ13 hf H locs ls hP hS (lv_sub hl [1] rfl)
      · replace hf := it_t c11 hf
        refine lv_aload_n hx hb dX11_reads_66 rfl (lv_at hl 1 rfl) ?_
        refine lv_iconst (v := 0) hx hb dX11_reads_67 (by decide) ?_
        refine r_put (k := 21) (x := 0) C hP hS tyX11 tyX11_ok nmX11 oM_0 rfl iX11 (by decide) wm_t1038 rfl rfl sM_0_21 rfl rfl (Nat.le_of_ble_eq_true rfl) dX11_reads_68 (fun H locs hP hS => ?_)
        obtain ⟨σ19, eσ19, hf⟩ := nmS_e hf
        rw [← eσ19] at hP
        cases hf
        exact r_vret C hP hS dX11_reads_71
    · replace hf := it_t c6 hf
      exact b_fX11_reads_26 C rec0 hr0 σ hf H locs ls hP hS (lv_sub hl [0] rfl)
def fX11_reads_0 : Nat → St → Option St
  | 0 => fun _ => none
  | n + 1 => fun σ => fX11_reads_0B (fX11_reads_0 n) σ
theorem b_fX11_reads_0 {E : Ev} {l : Launch} {p : Program} {e : Env} {s : State} {m : MethodId} {args : Array Value} {below : List Frame} {meth : Method} {c : Code} (C : CX false E RX11 cX11_reads 2 none p s m args meth c) {sr : St} : ∀ (n : Nat) (σ : St), fX11_reads_0 n σ = some sr → GW false l (rmD 3) E 2 p e s m args below meth c (MQ below (QV false E sr s.heap.size) args s 0 0 (aW false E s.heap.size)) σ 0 [(0, .ref (ea E 0))] [] := by
  intro n
  induction n with
  | zero => intro σ hf; have hf : (none : Option _) = some _ := hf; cases hf
  | succ n ih => intro σ hf; exact b_fX11_reads_0B C (fX11_reads_0 n) ih σ hf
def fX11_reads (σ : St) : Option St :=
fX11_reads_0 FU σ
set_option maxHeartbeats 4000000 in
theorem c_fX11_reads {E : Ev} {l : Launch} (hj : jW false E) (σ : St) (sz : Nat) {sr : St} (hf : fX11_reads σ = some sr) : Met l yX11_reads (Cond.code yX11_reads cX11_reads 2 none :: gT) (rmD 3) (va_Pc [.ref (ea E 0)] (preW false E σ sz)) (QV false E sr sz) 0 0 (aW false E sz) := by
  refine r_entry (QV false E sr) hj (by decide) [.ref (ea E 0)] (Nat.le_of_ble_eq_true rfl) (fun p e s m args below meth c C => ?_)
  intro H locs ls hP hS hl
  have hl : lv_has ls 2 [(0, .ref (ea E 0))] := hl
  obtain ⟨hx, hb, hr, hml, hown, hts, hlocks, hK, hX, hj⟩ := id C
  unfold fX11_reads at hf
  exact b_fX11_reads_0 C FU σ hf H locs ls hP hS (lv_sub hl [0] rfl)
def fX11_fails (σ : St) (a0 : Int32) : Option (Int32 × St) :=
(nmS (st_put σ 0 37 a0) fun σ1 =>
(nmS (st_put σ1 0 38 (σ1 0 20)) fun σ2 =>
some ((-1), σ2)))
set_option maxHeartbeats 4000000 in
theorem c_fX11_fails {E : Ev} {l : Launch} (hj : jW false E) (σ : St) (sz : Nat) (a0 : Int32) {rr : Int32} {sr : St} (hf : fX11_fails σ a0 = some (rr, sr)) : Met l yX11_fails (Cond.code yX11_fails cX11_fails 2 (some .int) :: gT) (rmD 1) (va_Pc [.ref (ea E 0), .int a0] (preW false E σ sz)) (QI false E rr sr sz) 0 0 (aW false E sz) := by
  refine r_entry (QI false E rr sr) hj (by decide) [.ref (ea E 0), .int a0] (Nat.le_of_ble_eq_true rfl) (fun p e s m args below meth c C => ?_)
  intro H locs ls hP hS hl
  have hl : lv_has ls 2 [(0, .ref (ea E 0)), (1, .int a0)] := hl
  obtain ⟨hx, hb, hr, hml, hown, hts, hlocks, hK, hX, hj⟩ := id C
  unfold fX11_fails at hf
  refine lv_aload_n hx hb dX11_fails_0 rfl (lv_at hl 0 rfl) ?_
  refine lv_iload_n hx hb dX11_fails_1 rfl (lv_at hl 1 rfl) ?_
  refine r_put (k := 37) (x := a0) C hP hS tyX11 tyX11_ok nmX11 oM_0 rfl iX11 (by decide) wm_t1054 rfl rfl sM_0_37 rfl rfl (Nat.le_of_ble_eq_true rfl) dX11_fails_2 (fun H locs hP hS => ?_)
  obtain ⟨σ1, eσ1, hf⟩ := nmS_e hf
  rw [← eσ1] at hP
  refine lv_aload_n hx hb dX11_fails_5 rfl (lv_at hl 0 rfl) ?_
  refine lv_aload_n hx hb dX11_fails_6 rfl (lv_at hl 0 rfl) ?_
  refine r_get (k := 20) (v := .int (σ1 0 20)) C hP oM_0 rfl iX11 (by decide) wm_t1037 rfl rfl dX11_fails_7 ?_
  refine r_put (k := 38) (x := (σ1 0 20)) C hP hS tyX11 tyX11_ok nmX11 oM_0 rfl iX11 (by decide) wm_t1055 rfl rfl sM_0_38 rfl rfl (Nat.le_of_ble_eq_true rfl) dX11_fails_10 (fun H locs hP hS => ?_)
  obtain ⟨σ2, eσ2, hf⟩ := nmS_e hf
  rw [← eσ2] at hP
  refine lv_iconst (v := (-1)) hx hb dX11_fails_13 (by decide) ?_
  cases hf
  exact r_iret C hP hS dX11_fails_14
def fX11_isWord (σ : St) (a0 : Int32) : Int32 :=
(if (σ 0 21) = 2 then
(if (σ 0 22) = a0 then
1
else
0)
else
0)
set_option maxHeartbeats 4000000 in
theorem c_fX11_isWord {E : Ev} {l : Launch} (hj : jW false E) (σ : St) (sz : Nat) (a0 : Int32) : Met l yX11_isWord (Cond.code yX11_isWord cX11_isWord 2 (some .boolean) :: gT) (rmD 1) (va_Pc [.ref (ea E 0), .int a0] (preW false E σ sz)) (QI false E (fX11_isWord σ a0) σ sz) 0 0 (aW false E sz) := by
  refine r_entry (QI false E (fX11_isWord σ a0) σ) hj (by decide) [.ref (ea E 0), .int a0] (Nat.le_of_ble_eq_true rfl) (fun p e s m args below meth c C => ?_)
  intro H locs ls hP hS hl
  have hl : lv_has ls 2 [(0, .ref (ea E 0)), (1, .int a0)] := hl
  obtain ⟨hx, hb, hr, hml, hown, hts, hlocks, hK, hX, hj⟩ := id C
  generalize hf : fX11_isWord σ a0 = rr
  unfold fX11_isWord at hf
  refine lv_aload_n hx hb dX11_isWord_0 rfl (lv_at hl 0 rfl) ?_
  refine r_get (k := 21) (v := .int (σ 0 21)) C hP oM_0 rfl iX11 (by decide) wm_t1038 rfl rfl dX11_isWord_1 ?_
  refine lv_iconst (v := 2) hx hb dX11_isWord_4 (by decide) ?_
  refine lv_icmp_ne (tgt := 20) hx hb dX11_isWord_5 (by decide) (fun c1 => ?_) (fun c1 => ?_)
  · replace hf := it_f c1 hf
    refine lv_iconst (v := 0) hx hb dX11_isWord_20 (by decide) ?_
    subst hf
    exact r_zret C rfl hP hS dX11_isWord_21
  · replace hf := it_t c1 hf
    refine lv_aload_n hx hb dX11_isWord_8 rfl (lv_at hl 0 rfl) ?_
    refine r_get (k := 22) (v := .int (σ 0 22)) C hP oM_0 rfl iX11 (by decide) wm_t1039 rfl rfl dX11_isWord_9 ?_
    refine lv_iload_n hx hb dX11_isWord_12 rfl (lv_at hl 1 rfl) ?_
    refine lv_icmp_ne (tgt := 20) hx hb dX11_isWord_13 (by decide) (fun c2 => ?_) (fun c2 => ?_)
    · replace hf := it_f c2 hf
      refine lv_iconst (v := 0) hx hb dX11_isWord_20 (by decide) ?_
      subst hf
      exact r_zret C rfl hP hS dX11_isWord_21
    · replace hf := it_t c2 hf
      refine lv_iconst (v := 1) hx hb dX11_isWord_16 (by decide) ?_
      refine lv_goto (tgt := 21) hx hb dX11_isWord_17 (by decide) ?_
      subst hf
      exact r_zret C rfl hP hS dX11_isWord_21
theorem z_fX11_isWord (σ : St) (a0 : Int32) : fX11_isWord σ a0 = 0 ∨ fX11_isWord σ a0 = 1 := by
  unfold fX11_isWord
  repeat' split
  all_goals first | exact Or.inl rfl | exact Or.inr rfl
def fX11_isSign (σ : St) (a0 : Int32) : Int32 :=
(if (σ 0 21) = 4 then
(if (σ 0 22) = a0 then
1
else
0)
else
0)
set_option maxHeartbeats 4000000 in
theorem c_fX11_isSign {E : Ev} {l : Launch} (hj : jW false E) (σ : St) (sz : Nat) (a0 : Int32) : Met l yX11_isSign (Cond.code yX11_isSign cX11_isSign 2 (some .boolean) :: gT) (rmD 1) (va_Pc [.ref (ea E 0), .int a0] (preW false E σ sz)) (QI false E (fX11_isSign σ a0) σ sz) 0 0 (aW false E sz) := by
  refine r_entry (QI false E (fX11_isSign σ a0) σ) hj (by decide) [.ref (ea E 0), .int a0] (Nat.le_of_ble_eq_true rfl) (fun p e s m args below meth c C => ?_)
  intro H locs ls hP hS hl
  have hl : lv_has ls 2 [(0, .ref (ea E 0)), (1, .int a0)] := hl
  obtain ⟨hx, hb, hr, hml, hown, hts, hlocks, hK, hX, hj⟩ := id C
  generalize hf : fX11_isSign σ a0 = rr
  unfold fX11_isSign at hf
  refine lv_aload_n hx hb dX11_isSign_0 rfl (lv_at hl 0 rfl) ?_
  refine r_get (k := 21) (v := .int (σ 0 21)) C hP oM_0 rfl iX11 (by decide) wm_t1038 rfl rfl dX11_isSign_1 ?_
  refine lv_iconst (v := 4) hx hb dX11_isSign_4 (by decide) ?_
  refine lv_icmp_ne (tgt := 20) hx hb dX11_isSign_5 (by decide) (fun c1 => ?_) (fun c1 => ?_)
  · replace hf := it_f c1 hf
    refine lv_iconst (v := 0) hx hb dX11_isSign_20 (by decide) ?_
    subst hf
    exact r_zret C rfl hP hS dX11_isSign_21
  · replace hf := it_t c1 hf
    refine lv_aload_n hx hb dX11_isSign_8 rfl (lv_at hl 0 rfl) ?_
    refine r_get (k := 22) (v := .int (σ 0 22)) C hP oM_0 rfl iX11 (by decide) wm_t1039 rfl rfl dX11_isSign_9 ?_
    refine lv_iload_n hx hb dX11_isSign_12 rfl (lv_at hl 1 rfl) ?_
    refine lv_icmp_ne (tgt := 20) hx hb dX11_isSign_13 (by decide) (fun c2 => ?_) (fun c2 => ?_)
    · replace hf := it_f c2 hf
      refine lv_iconst (v := 0) hx hb dX11_isSign_20 (by decide) ?_
      subst hf
      exact r_zret C rfl hP hS dX11_isSign_21
    · replace hf := it_t c2 hf
      refine lv_iconst (v := 1) hx hb dX11_isSign_16 (by decide) ?_
      refine lv_goto (tgt := 21) hx hb dX11_isSign_17 (by decide) ?_
      subst hf
      exact r_zret C rfl hP hS dX11_isSign_21
theorem z_fX11_isSign (σ : St) (a0 : Int32) : fX11_isSign σ a0 = 0 ∨ fX11_isSign σ a0 = 1 := by
  unfold fX11_isSign
  repeat' split
  all_goals first | exact Or.inl rfl | exact Or.inr rfl
def fX11_emits (σ : St) (a0 : Int32) (a1 : Int32) : Option St :=
(wrK 1800 σ 21 (1200 + (σ 0 33)) a0 fun σ1 =>
(wrK 1800 σ1 22 (1200 + (σ1 0 33)) a1 fun σ3 =>
(nmS (st_put σ3 0 33 ((σ3 0 33) + 1)) fun σ5 =>
some σ5)))
set_option maxHeartbeats 4000000 in
theorem c_fX11_emits {E : Ev} {l : Launch} (hj : jW false E) (σ : St) (sz : Nat) (a0 : Int32) (a1 : Int32) {sr : St} (hf : fX11_emits σ a0 a1 = some sr) : Met l yX11_emits (Cond.code yX11_emits cX11_emits 3 none :: gT) (rmD 1) (va_Pc [.ref (ea E 0), .int a0, .int a1] (preW false E σ sz)) (QV false E sr sz) 0 0 (aW false E sz) := by
  refine r_entry (QV false E sr) hj (by decide) [.ref (ea E 0), .int a0, .int a1] (Nat.le_of_ble_eq_true rfl) (fun p e s m args below meth c C => ?_)
  intro H locs ls hP hS hl
  have hl : lv_has ls 3 [(0, .ref (ea E 0)), (1, .int a0), (2, .int a1)] := hl
  obtain ⟨hx, hb, hr, hml, hown, hts, hlocks, hK, hX, hj⟩ := id C
  unfold fX11_emits at hf
  refine lv_aload_n hx hb dX11_emits_0 rfl (lv_at hl 0 rfl) ?_
  refine r_get (k := 30) (v := .ref (ea E 21)) C hP oM_0 rfl iX11 (by decide) wm_t1047 rfl rfl dX11_emits_1 ?_
  refine lv_sipush (v := 1200) hx hb dX11_emits_4 (by decide) ?_
  refine lv_aload_n hx hb dX11_emits_7 rfl (lv_at hl 0 rfl) ?_
  refine r_get (k := 33) (v := .int (σ 0 33)) C hP oM_0 rfl iX11 (by decide) wm_t1050 rfl rfl dX11_emits_8 ?_
  refine lv_iadd hx hb dX11_emits_11 ?_
  refine lv_iload_n hx hb dX11_emits_12 rfl (lv_at hl 1 rfl) ?_
  obtain ⟨h2, σ1, eσ1, hf⟩ := wrK_e hf
  refine r_ast C hP hS aM_21 h2 dX11_emits_13 (fun H locs hP hS => ?_)
  rw [← eσ1] at hP
  refine lv_aload_n hx hb dX11_emits_14 rfl (lv_at hl 0 rfl) ?_
  refine r_get (k := 31) (v := .ref (ea E 22)) C hP oM_0 rfl iX11 (by decide) wm_t1048 rfl rfl dX11_emits_15 ?_
  refine lv_sipush (v := 1200) hx hb dX11_emits_18 (by decide) ?_
  refine lv_aload_n hx hb dX11_emits_21 rfl (lv_at hl 0 rfl) ?_
  refine r_get (k := 33) (v := .int (σ1 0 33)) C hP oM_0 rfl iX11 (by decide) wm_t1050 rfl rfl dX11_emits_22 ?_
  refine lv_iadd hx hb dX11_emits_25 ?_
  refine lv_iload_n hx hb dX11_emits_26 rfl (lv_at hl 2 rfl) ?_
  obtain ⟨h4, σ3, eσ3, hf⟩ := wrK_e hf
  refine r_ast C hP hS aM_22 h4 dX11_emits_27 (fun H locs hP hS => ?_)
  rw [← eσ3] at hP
  refine lv_aload_n hx hb dX11_emits_28 rfl (lv_at hl 0 rfl) ?_
  refine lv_aload_n hx hb dX11_emits_29 rfl (lv_at hl 0 rfl) ?_
  refine r_get (k := 33) (v := .int (σ3 0 33)) C hP oM_0 rfl iX11 (by decide) wm_t1050 rfl rfl dX11_emits_30 ?_
  refine lv_iconst (v := 1) hx hb dX11_emits_33 (by decide) ?_
  refine lv_iadd hx hb dX11_emits_34 ?_
  refine r_put (k := 33) (x := ((σ3 0 33) + 1)) C hP hS tyX11 tyX11_ok nmX11 oM_0 rfl iX11 (by decide) wm_t1050 rfl rfl sM_0_33 rfl rfl (Nat.le_of_ble_eq_true rfl) dX11_emits_35 (fun H locs hP hS => ?_)
  obtain ⟨σ5, eσ5, hf⟩ := nmS_e hf
  rw [← eσ5] at hP
  cases hf
  exact r_vret C hP hS dX11_emits_38
def fX11_isAsking (σ : St) : Int32 :=
(if (σ 0 21) = 2 then
(if (σ 0 32) = 0 then
(if (σ 0 22) = 16 then
1
else
(if (fX11_isIn (σ 0 22) 20 26) = 0 then
0
else
1))
else
(if (fX11_isIn (σ 0 22) 11 19) = 0 then
0
else
1))
else
0)
set_option maxHeartbeats 4000000 in
theorem c_fX11_isAsking {E : Ev} {l : Launch} (hj : jW false E) (σ : St) (sz : Nat) : Met l yX11_isAsking (Cond.code yX11_isAsking cX11_isAsking 1 (some .boolean) :: gT) (rmD 2) (va_Pc [.ref (ea E 0)] (preW false E σ sz)) (QI false E (fX11_isAsking σ) σ sz) 0 0 (aW false E sz) := by
  refine r_entry (QI false E (fX11_isAsking σ) σ) hj (by decide) [.ref (ea E 0)] (Nat.le_of_ble_eq_true rfl) (fun p e s m args below meth c C => ?_)
  intro H locs ls hP hS hl
  have hl : lv_has ls 1 [(0, .ref (ea E 0))] := hl
  obtain ⟨hx, hb, hr, hml, hown, hts, hlocks, hK, hX, hj⟩ := id C
  generalize hf : fX11_isAsking σ = rr
  unfold fX11_isAsking at hf
  refine lv_aload_n hx hb dX11_isAsking_0 rfl (lv_at hl 0 rfl) ?_
  refine r_get (k := 21) (v := .int (σ 0 21)) C hP oM_0 rfl iX11 (by decide) wm_t1038 rfl rfl dX11_isAsking_1 ?_
  refine lv_iconst (v := 2) hx hb dX11_isAsking_4 (by decide) ?_
  refine lv_icmp_ne (tgt := 61) hx hb dX11_isAsking_5 (by decide) (fun c1 => ?_) (fun c1 => ?_)
  · replace hf := it_f c1 hf
    refine lv_iconst (v := 0) hx hb dX11_isAsking_61 (by decide) ?_
    subst hf
    exact r_zret C rfl hP hS dX11_isAsking_62
  · replace hf := it_t c1 hf
    refine lv_aload_n hx hb dX11_isAsking_8 rfl (lv_at hl 0 rfl) ?_
    refine r_get (k := 32) (v := .int (σ 0 32)) C hP oM_0 rfl iX11 (by decide) wm_t1049 rfl rfl dX11_isAsking_9 ?_
    refine lv_if_eq (tgt := 33) hx hb dX11_isAsking_12 (by decide) (fun c2 => ?_) (fun c2 => ?_)
    · replace hf := it_t c2 hf
      refine lv_aload_n hx hb dX11_isAsking_33 rfl (lv_at hl 0 rfl) ?_
      refine r_get (k := 22) (v := .int (σ 0 22)) C hP oM_0 rfl iX11 (by decide) wm_t1039 rfl rfl dX11_isAsking_34 ?_
      refine lv_bipush (v := 16) hx hb dX11_isAsking_37 (by decide) ?_
      refine lv_icmp_eq (tgt := 57) hx hb dX11_isAsking_39 (by decide) (fun c3 => ?_) (fun c3 => ?_)
      · replace hf := it_t c3 hf
        refine lv_iconst (v := 1) hx hb dX11_isAsking_57 (by decide) ?_
        refine lv_goto (tgt := 62) hx hb dX11_isAsking_58 (by decide) ?_
        subst hf
        exact r_zret C rfl hP hS dX11_isAsking_62
      · replace hf := it_f c3 hf
        refine lv_aload_n hx hb dX11_isAsking_42 rfl (lv_at hl 0 rfl) ?_
        refine lv_aload_n hx hb dX11_isAsking_43 rfl (lv_at hl 0 rfl) ?_
        refine r_get (k := 22) (v := .int (σ 0 22)) C hP oM_0 rfl iX11 (by decide) wm_t1039 rfl rfl dX11_isAsking_44 ?_
        refine lv_bipush (v := 20) hx hb dX11_isAsking_47 (by decide) ?_
        refine lv_bipush (v := 26) hx hb dX11_isAsking_49 (by decide) ?_
        refine r_cVi (n := 3) (As := [.int (σ 0 22), .int 20, .int 26]) (rest := []) C (c_fX11_isIn hj σ H.size (σ 0 22) 20 26) oM_0 rfl gv_RX11_144 (by decide +kernel) (rmD_le (by decide) (by decide)) rfl rfl (Nat.le_of_ble_eq_true rfl) dX11_isAsking_51 hP hS hl.1 (fun H locs hP hS => ?_)
        refine lv_if_eq (tgt := 61) hx hb dX11_isAsking_54 (by decide) (fun c4 => ?_) (fun c4 => ?_)
        · replace hf := it_t c4 hf
          refine lv_iconst (v := 0) hx hb dX11_isAsking_61 (by decide) ?_
          subst hf
          exact r_zret C rfl hP hS dX11_isAsking_62
        · replace hf := it_f c4 hf
          refine lv_iconst (v := 1) hx hb dX11_isAsking_57 (by decide) ?_
          refine lv_goto (tgt := 62) hx hb dX11_isAsking_58 (by decide) ?_
          subst hf
          exact r_zret C rfl hP hS dX11_isAsking_62
    · replace hf := it_f c2 hf
      refine lv_aload_n hx hb dX11_isAsking_15 rfl (lv_at hl 0 rfl) ?_
      refine lv_aload_n hx hb dX11_isAsking_16 rfl (lv_at hl 0 rfl) ?_
      refine r_get (k := 22) (v := .int (σ 0 22)) C hP oM_0 rfl iX11 (by decide) wm_t1039 rfl rfl dX11_isAsking_17 ?_
      refine lv_bipush (v := 11) hx hb dX11_isAsking_20 (by decide) ?_
      refine lv_bipush (v := 19) hx hb dX11_isAsking_22 (by decide) ?_
      refine r_cVi (n := 3) (As := [.int (σ 0 22), .int 11, .int 19]) (rest := []) C (c_fX11_isIn hj σ H.size (σ 0 22) 11 19) oM_0 rfl gv_RX11_144 (by decide +kernel) (rmD_le (by decide) (by decide)) rfl rfl (Nat.le_of_ble_eq_true rfl) dX11_isAsking_24 hP hS hl.1 (fun H locs hP hS => ?_)
      refine lv_if_eq (tgt := 61) hx hb dX11_isAsking_27 (by decide) (fun c5 => ?_) (fun c5 => ?_)
      · replace hf := it_t c5 hf
        refine lv_iconst (v := 0) hx hb dX11_isAsking_61 (by decide) ?_
        subst hf
        exact r_zret C rfl hP hS dX11_isAsking_62
      · replace hf := it_f c5 hf
        refine lv_goto (tgt := 57) hx hb dX11_isAsking_30 (by decide) ?_
        refine lv_iconst (v := 1) hx hb dX11_isAsking_57 (by decide) ?_
        refine lv_goto (tgt := 62) hx hb dX11_isAsking_58 (by decide) ?_
        subst hf
        exact r_zret C rfl hP hS dX11_isAsking_62
theorem z_fX11_isAsking (σ : St) : fX11_isAsking σ = 0 ∨ fX11_isAsking σ = 1 := by
  unfold fX11_isAsking
  repeat' split
  all_goals first | exact Or.inl rfl | exact Or.inr rfl | exact z_fX11_isIn _ _ _
def fX11_readUnit_51 (σ : St) (y0 : Int32) (y1 : Int32) : Option (Int32 × St) :=
(cv (fX11_emits σ y1 y0) fun σ2 =>
(cv (fX11_reads σ2) fun σ4 =>
some (0, σ4)))
set_option maxHeartbeats 4000000 in
theorem b_fX11_readUnit_51 {E : Ev} {l : Launch} {p : Program} {e : Env} {s : State} {m : MethodId} {args : Array Value} {below : List Frame} {meth : Method} {c : Code} (C : CX false E RX11 cX11_readUnit 2 (some .int) p s m args meth c) {rr : Int32} {sr : St} : ∀ (σ : St) (y0 : Int32) (y1 : Int32), fX11_readUnit_51 σ y0 y1 = some (rr, sr) → GW false l (rmD 4) E 2 p e s m args below meth c (MQ below (QI false E rr sr s.heap.size) args s 0 0 (aW false E s.heap.size)) σ 51 [(0, .ref (ea E 0))] [.int y0, .int y1, .ref (ea E 0)] := by
  intro σ y0 y1 hf H locs ls hP hS hl
  obtain ⟨hx, hb, hr, hml, hown, hts, hlocks, hK, hX, hj⟩ := id C
  unfold fX11_readUnit_51 at hf
  obtain ⟨σ2, hc1, hf⟩ := cv_e hf
  refine r_cVv (n := 2) (As := [.int y1, .int y0]) (rest := []) C (c_fX11_emits hj σ H.size y1 y0 hc1) oM_0 rfl gv_RX11_218 (by decide +kernel) (rmD_le (by decide) (by decide)) rfl rfl (Nat.le_of_ble_eq_true rfl) dX11_readUnit_51 hP hS hl.1 (fun H locs hP hS => ?_)
  refine lv_aload_n hx hb dX11_readUnit_54 rfl (lv_at hl 0 rfl) ?_
  obtain ⟨σ4, hc3, hf⟩ := cv_e hf
  refine r_cVv (n := 0) (As := []) (rest := []) C (c_fX11_reads hj σ2 H.size hc3) oM_0 rfl gv_RX11_222 (by decide +kernel) (rmD_le (by decide) (by decide)) rfl rfl (Nat.le_of_ble_eq_true rfl) dX11_readUnit_55 hP hS hl.1 (fun H locs hP hS => ?_)
  refine lv_iconst (v := 0) hx hb dX11_readUnit_58 (by decide) ?_
  cases hf
  exact r_iret C hP hS dX11_readUnit_59
def fX11_readUnit_33 (σ : St) (x1 : Int32) (y0 : Int32) : Option (Int32 × St) :=
(if x1 = 0 then
fX11_readUnit_51 σ (σ 0 22) y0
else
fX11_readUnit_51 σ ((σ 0 22) - 11) y0)
set_option maxHeartbeats 4000000 in
theorem b_fX11_readUnit_33 {E : Ev} {l : Launch} {p : Program} {e : Env} {s : State} {m : MethodId} {args : Array Value} {below : List Frame} {meth : Method} {c : Code} (C : CX false E RX11 cX11_readUnit 2 (some .int) p s m args meth c) {rr : Int32} {sr : St} : ∀ (σ : St) (x1 : Int32) (y0 : Int32), fX11_readUnit_33 σ x1 y0 = some (rr, sr) → GW false l (rmD 4) E 2 p e s m args below meth c (MQ below (QI false E rr sr s.heap.size) args s 0 0 (aW false E s.heap.size)) σ 33 [(0, .ref (ea E 0)), (1, .int x1)] [.int y0, .ref (ea E 0)] := by
  intro σ x1 y0 hf H locs ls hP hS hl
  obtain ⟨hx, hb, hr, hml, hown, hts, hlocks, hK, hX, hj⟩ := id C
  unfold fX11_readUnit_33 at hf
  refine lv_iload_n hx hb dX11_readUnit_33 rfl (lv_at hl 1 rfl) ?_
  refine lv_if_eq (tgt := 47) hx hb dX11_readUnit_34 (by decide) (fun c1 => ?_) (fun c1 => ?_)
  · replace hf := it_t c1 hf
    refine lv_aload_n hx hb dX11_readUnit_47 rfl (lv_at hl 0 rfl) ?_
    refine r_get (k := 22) (v := .int (σ 0 22)) C hP oM_0 rfl iX11 (by decide) wm_t1039 rfl rfl dX11_readUnit_48 ?_
    exact b_fX11_readUnit_51 C σ (σ 0 22) y0 hf H locs ls hP hS (lv_sub hl [0] rfl)
  · replace hf := it_f c1 hf
    refine lv_aload_n hx hb dX11_readUnit_37 rfl (lv_at hl 0 rfl) ?_
    refine r_get (k := 22) (v := .int (σ 0 22)) C hP oM_0 rfl iX11 (by decide) wm_t1039 rfl rfl dX11_readUnit_38 ?_
    refine lv_bipush (v := 11) hx hb dX11_readUnit_41 (by decide) ?_
    refine lv_isub hx hb dX11_readUnit_43 ?_
    refine lv_goto (tgt := 51) hx hb dX11_readUnit_44 (by decide) ?_
    exact b_fX11_readUnit_51 C σ ((σ 0 22) - 11) y0 hf H locs ls hP hS (lv_sub hl [0] rfl)
def fX11_readUnit_23 (σ : St) (x1 : Int32) : Option (Int32 × St) :=
(if x1 = 0 then
fX11_readUnit_33 σ x1 0
else
fX11_readUnit_33 σ x1 1)
set_option maxHeartbeats 4000000 in
theorem b_fX11_readUnit_23 {E : Ev} {l : Launch} {p : Program} {e : Env} {s : State} {m : MethodId} {args : Array Value} {below : List Frame} {meth : Method} {c : Code} (C : CX false E RX11 cX11_readUnit 2 (some .int) p s m args meth c) {rr : Int32} {sr : St} : ∀ (σ : St) (x1 : Int32), fX11_readUnit_23 σ x1 = some (rr, sr) → GW false l (rmD 4) E 2 p e s m args below meth c (MQ below (QI false E rr sr s.heap.size) args s 0 0 (aW false E s.heap.size)) σ 23 [(0, .ref (ea E 0)), (1, .int x1)] [] := by
  intro σ x1 hf H locs ls hP hS hl
  obtain ⟨hx, hb, hr, hml, hown, hts, hlocks, hK, hX, hj⟩ := id C
  unfold fX11_readUnit_23 at hf
  refine lv_aload_n hx hb dX11_readUnit_23 rfl (lv_at hl 0 rfl) ?_
  refine lv_iload_n hx hb dX11_readUnit_24 rfl (lv_at hl 1 rfl) ?_
  refine lv_if_eq (tgt := 32) hx hb dX11_readUnit_25 (by decide) (fun c1 => ?_) (fun c1 => ?_)
  · replace hf := it_t c1 hf
    refine lv_iconst (v := 0) hx hb dX11_readUnit_32 (by decide) ?_
    exact b_fX11_readUnit_33 C σ x1 0 hf H locs ls hP hS (lv_sub hl [0, 1] rfl)
  · replace hf := it_f c1 hf
    refine lv_iconst (v := 1) hx hb dX11_readUnit_28 (by decide) ?_
    refine lv_goto (tgt := 33) hx hb dX11_readUnit_29 (by decide) ?_
    exact b_fX11_readUnit_33 C σ x1 1 hf H locs ls hP hS (lv_sub hl [0, 1] rfl)
def fX11_readUnit (σ : St) : Option (Int32 × St) :=
(if (fX11_isAsking σ) = 0 then
(if (σ 0 21) = 3 then
fX11_readUnit_23 σ (fX11_isAsking σ)
else
(cb (fX11_fails σ 1) fun r3 σ5 =>
some (r3, σ5)))
else
fX11_readUnit_23 σ (fX11_isAsking σ))
set_option maxHeartbeats 4000000 in
theorem c_fX11_readUnit {E : Ev} {l : Launch} (hj : jW false E) (σ : St) (sz : Nat) {rr : Int32} {sr : St} (hf : fX11_readUnit σ = some (rr, sr)) : Met l yX11_readUnit (Cond.code yX11_readUnit cX11_readUnit 2 (some .int) :: gT) (rmD 4) (va_Pc [.ref (ea E 0)] (preW false E σ sz)) (QI false E rr sr sz) 0 0 (aW false E sz) := by
  refine r_entry (QI false E rr sr) hj (by decide) [.ref (ea E 0)] (Nat.le_of_ble_eq_true rfl) (fun p e s m args below meth c C => ?_)
  intro H locs ls hP hS hl
  have hl : lv_has ls 2 [(0, .ref (ea E 0))] := hl
  obtain ⟨hx, hb, hr, hml, hown, hts, hlocks, hK, hX, hj⟩ := id C
  unfold fX11_readUnit at hf
  refine lv_aload_n hx hb dX11_readUnit_0 rfl (lv_at hl 0 rfl) ?_
  refine r_cVi (n := 0) (As := []) (rest := []) C (c_fX11_isAsking hj σ H.size) oM_0 rfl gv_RX11_211 (by decide +kernel) (rmD_le (by decide) (by decide)) rfl rfl (Nat.le_of_ble_eq_true rfl) dX11_readUnit_1 hP hS hl.1 (fun H locs hP hS => ?_)
  refine lv_istore_n (lv' := [(1, .int (fX11_isAsking σ)), (0, .ref (ea E 0))]) hx hb dX11_readUnit_4 rfl hl (by decide) rfl (fun ls hl => ?_)
  refine lv_iload_n hx hb dX11_readUnit_5 rfl (lv_at hl 0 rfl) ?_
  refine lv_if_ne (tgt := 23) hx hb dX11_readUnit_6 (by decide) (fun c1 => ?_) (fun c1 => ?_)
  · replace hf := it_f c1 hf
    exact b_fX11_readUnit_23 C σ (fX11_isAsking σ) hf H locs ls hP hS (lv_sub hl [1, 0] rfl)
  · replace hf := it_t c1 hf
    refine lv_aload_n hx hb dX11_readUnit_9 rfl (lv_at hl 1 rfl) ?_
    refine r_get (k := 21) (v := .int (σ 0 21)) C hP oM_0 rfl iX11 (by decide) wm_t1038 rfl rfl dX11_readUnit_10 ?_
    refine lv_iconst (v := 3) hx hb dX11_readUnit_13 (by decide) ?_
    refine lv_icmp_eq (tgt := 23) hx hb dX11_readUnit_14 (by decide) (fun c2 => ?_) (fun c2 => ?_)
    · replace hf := it_t c2 hf
      exact b_fX11_readUnit_23 C σ (fX11_isAsking σ) hf H locs ls hP hS (lv_sub hl [1, 0] rfl)
    · replace hf := it_f c2 hf
      refine lv_aload_n hx hb dX11_readUnit_17 rfl (lv_at hl 1 rfl) ?_
      refine lv_iconst (v := 1) hx hb dX11_readUnit_18 (by decide) ?_
      obtain ⟨r3, σ5, hc4, hf⟩ := cb_e hf
      refine r_cVi (n := 1) (As := [.int 1]) (rest := []) C (c_fX11_fails hj σ H.size 1 hc4) oM_0 rfl gv_RX11_215 (by decide +kernel) (rmD_le (by decide) (by decide)) rfl rfl (Nat.le_of_ble_eq_true rfl) dX11_readUnit_19 hP hS hl.1 (fun H locs hP hS => ?_)
      cases hf
      exact r_iret C hP hS dX11_readUnit_22
def fX11_readProduct_94 (rec10 : St → Option (Int32 × St)) (σ : St) (y0 : Int32) : Option (Int32 × St) :=
(cv (fX11_emits σ y0 0) fun σ2 =>
rec10 σ2)
set_option maxHeartbeats 4000000 in
theorem b_fX11_readProduct_94 {E : Ev} {l : Launch} {p : Program} {e : Env} {s : State} {m : MethodId} {args : Array Value} {below : List Frame} {meth : Method} {c : Code} (C : CX false E RX11 cX11_readProduct 2 (some .int) p s m args meth c) {rr : Int32} {sr : St} (rec10 : St → Option (Int32 × St)) (hr10 : ∀ (σ : St), rec10 σ = some (rr, sr) → GW false l (rmD 5) E 2 p e s m args below meth c (MQ below (QI false E rr sr s.heap.size) args s 0 0 (aW false E s.heap.size)) σ 10 [(0, .ref (ea E 0))] []) : ∀ (σ : St) (y0 : Int32), fX11_readProduct_94 rec10 σ y0 = some (rr, sr) → GW false l (rmD 5) E 2 p e s m args below meth c (MQ below (QI false E rr sr s.heap.size) args s 0 0 (aW false E s.heap.size)) σ 94 [(0, .ref (ea E 0))] [.int y0, .ref (ea E 0)] := by
  intro σ y0 hf H locs ls hP hS hl
  obtain ⟨hx, hb, hr, hml, hown, hts, hlocks, hK, hX, hj⟩ := id C
  unfold fX11_readProduct_94 at hf
  refine lv_iconst (v := 0) hx hb dX11_readProduct_94 (by decide) ?_
  obtain ⟨σ2, hc1, hf⟩ := cv_e hf
  refine r_cVv (n := 2) (As := [.int y0, .int 0]) (rest := []) C (c_fX11_emits hj σ H.size y0 0 hc1) oM_0 rfl gv_RX11_218 (by decide +kernel) (rmD_le (by decide) (by decide)) rfl rfl (Nat.le_of_ble_eq_true rfl) dX11_readProduct_95 hP hS hl.1 (fun H locs hP hS => ?_)
  refine lv_goto (tgt := 10) hx hb dX11_readProduct_98 (by decide) ?_
  exact hr10 σ2 hf H locs ls hP hS (lv_sub hl [0] rfl)
def fX11_readProduct_74 (rec10 : St → Option (Int32 × St)) (σ : St) (x1 : Int32) : Option (Int32 × St) :=
(cb (fX11_readUnit σ) fun r1 σ3 =>
(if r1 = (-1) then
some ((-1), σ3)
else
(if x1 = 0 then
fX11_readProduct_94 rec10 σ3 5
else
fX11_readProduct_94 rec10 σ3 4)))
set_option maxHeartbeats 4000000 in
theorem b_fX11_readProduct_74 {E : Ev} {l : Launch} {p : Program} {e : Env} {s : State} {m : MethodId} {args : Array Value} {below : List Frame} {meth : Method} {c : Code} (C : CX false E RX11 cX11_readProduct 2 (some .int) p s m args meth c) {rr : Int32} {sr : St} (rec10 : St → Option (Int32 × St)) (hr10 : ∀ (σ : St), rec10 σ = some (rr, sr) → GW false l (rmD 5) E 2 p e s m args below meth c (MQ below (QI false E rr sr s.heap.size) args s 0 0 (aW false E s.heap.size)) σ 10 [(0, .ref (ea E 0))] []) : ∀ (σ : St) (x1 : Int32), fX11_readProduct_74 rec10 σ x1 = some (rr, sr) → GW false l (rmD 5) E 2 p e s m args below meth c (MQ below (QI false E rr sr s.heap.size) args s 0 0 (aW false E s.heap.size)) σ 74 [(0, .ref (ea E 0)), (1, .int x1)] [] := by
  intro σ x1 hf H locs ls hP hS hl
  obtain ⟨hx, hb, hr, hml, hown, hts, hlocks, hK, hX, hj⟩ := id C
  unfold fX11_readProduct_74 at hf
  refine lv_aload_n hx hb dX11_readProduct_74 rfl (lv_at hl 0 rfl) ?_
  obtain ⟨r1, σ3, hc2, hf⟩ := cb_e hf
  refine r_cVi (n := 0) (As := []) (rest := []) C (c_fX11_readUnit hj σ H.size hc2) oM_0 rfl gv_RX11_225 (by decide +kernel) (rmD_le (by decide) (by decide)) rfl rfl (Nat.le_of_ble_eq_true rfl) dX11_readProduct_75 hP hS hl.1 (fun H locs hP hS => ?_)
  refine lv_iconst (v := (-1)) hx hb dX11_readProduct_78 (by decide) ?_
  refine lv_icmp_ne (tgt := 84) hx hb dX11_readProduct_79 (by decide) (fun c4 => ?_) (fun c4 => ?_)
  · replace hf := it_f c4 hf
    refine lv_aload_n hx hb dX11_readProduct_84 rfl (lv_at hl 0 rfl) ?_
    refine lv_iload_n hx hb dX11_readProduct_85 rfl (lv_at hl 1 rfl) ?_
    refine lv_if_eq (tgt := 93) hx hb dX11_readProduct_86 (by decide) (fun c5 => ?_) (fun c5 => ?_)
    · replace hf := it_t c5 hf
      refine lv_iconst (v := 5) hx hb dX11_readProduct_93 (by decide) ?_
      exact b_fX11_readProduct_94 C rec10 hr10 σ3 5 hf H locs ls hP hS (lv_sub hl [0] rfl)
    · replace hf := it_f c5 hf
      refine lv_iconst (v := 4) hx hb dX11_readProduct_89 (by decide) ?_
      refine lv_goto (tgt := 94) hx hb dX11_readProduct_90 (by decide) ?_
      exact b_fX11_readProduct_94 C rec10 hr10 σ3 4 hf H locs ls hP hS (lv_sub hl [0] rfl)
  · replace hf := it_t c4 hf
    refine lv_iconst (v := (-1)) hx hb dX11_readProduct_82 (by decide) ?_
    cases hf
    exact r_iret C hP hS dX11_readProduct_83
def fX11_readProduct_57 (rec10 : St → Option (Int32 × St)) (σ : St) (x1 : Int32) : Option (Int32 × St) :=
(if x1 = 0 then
(if (σ 0 22) = 0 then
(cb (fX11_fails σ 2) fun r3 σ5 =>
some (r3, σ5))
else
fX11_readProduct_74 rec10 σ x1)
else
fX11_readProduct_74 rec10 σ x1)
set_option maxHeartbeats 4000000 in
theorem b_fX11_readProduct_57 {E : Ev} {l : Launch} {p : Program} {e : Env} {s : State} {m : MethodId} {args : Array Value} {below : List Frame} {meth : Method} {c : Code} (C : CX false E RX11 cX11_readProduct 2 (some .int) p s m args meth c) {rr : Int32} {sr : St} (rec10 : St → Option (Int32 × St)) (hr10 : ∀ (σ : St), rec10 σ = some (rr, sr) → GW false l (rmD 5) E 2 p e s m args below meth c (MQ below (QI false E rr sr s.heap.size) args s 0 0 (aW false E s.heap.size)) σ 10 [(0, .ref (ea E 0))] []) : ∀ (σ : St) (x1 : Int32), fX11_readProduct_57 rec10 σ x1 = some (rr, sr) → GW false l (rmD 5) E 2 p e s m args below meth c (MQ below (QI false E rr sr s.heap.size) args s 0 0 (aW false E s.heap.size)) σ 57 [(0, .ref (ea E 0)), (1, .int x1)] [] := by
  intro σ x1 hf H locs ls hP hS hl
  obtain ⟨hx, hb, hr, hml, hown, hts, hlocks, hK, hX, hj⟩ := id C
  unfold fX11_readProduct_57 at hf
  refine lv_iload_n hx hb dX11_readProduct_57 rfl (lv_at hl 1 rfl) ?_
  refine lv_if_ne (tgt := 74) hx hb dX11_readProduct_58 (by decide) (fun c1 => ?_) (fun c1 => ?_)
  · replace hf := it_f c1 hf
    exact b_fX11_readProduct_74 C rec10 hr10 σ x1 hf H locs ls hP hS (lv_sub hl [0, 1] rfl)
  · replace hf := it_t c1 hf
    refine lv_aload_n hx hb dX11_readProduct_61 rfl (lv_at hl 0 rfl) ?_
    refine r_get (k := 22) (v := .int (σ 0 22)) C hP oM_0 rfl iX11 (by decide) wm_t1039 rfl rfl dX11_readProduct_62 ?_
    refine lv_if_ne (tgt := 74) hx hb dX11_readProduct_65 (by decide) (fun c2 => ?_) (fun c2 => ?_)
    · replace hf := it_f c2 hf
      exact b_fX11_readProduct_74 C rec10 hr10 σ x1 hf H locs ls hP hS (lv_sub hl [0, 1] rfl)
    · replace hf := it_t c2 hf
      refine lv_aload_n hx hb dX11_readProduct_68 rfl (lv_at hl 0 rfl) ?_
      refine lv_iconst (v := 2) hx hb dX11_readProduct_69 (by decide) ?_
      obtain ⟨r3, σ5, hc4, hf⟩ := cb_e hf
      refine r_cVi (n := 1) (As := [.int 2]) (rest := []) C (c_fX11_fails hj σ H.size 2 hc4) oM_0 rfl gv_RX11_215 (by decide +kernel) (rmD_le (by decide) (by decide)) rfl rfl (Nat.le_of_ble_eq_true rfl) dX11_readProduct_70 hP hS hl.1 (fun H locs hP hS => ?_)
      cases hf
      exact r_iret C hP hS dX11_readProduct_73
def fX11_readProduct_28 (rec10 : St → Option (Int32 × St)) (σ : St) : Option (Int32 × St) :=
(cv (fX11_reads σ) fun σ2 =>
(if (fX11_isSign σ 42) = 0 then
(if (σ2 0 21) = 3 then
fX11_readProduct_57 rec10 σ2 (fX11_isSign σ 42)
else
(cb (fX11_fails σ2 1) fun r5 σ7 =>
some (r5, σ7)))
else
fX11_readProduct_57 rec10 σ2 (fX11_isSign σ 42)))
set_option maxHeartbeats 4000000 in
theorem b_fX11_readProduct_28 {E : Ev} {l : Launch} {p : Program} {e : Env} {s : State} {m : MethodId} {args : Array Value} {below : List Frame} {meth : Method} {c : Code} (C : CX false E RX11 cX11_readProduct 2 (some .int) p s m args meth c) {rr : Int32} {sr : St} (rec10 : St → Option (Int32 × St)) (hr10 : ∀ (σ : St), rec10 σ = some (rr, sr) → GW false l (rmD 5) E 2 p e s m args below meth c (MQ below (QI false E rr sr s.heap.size) args s 0 0 (aW false E s.heap.size)) σ 10 [(0, .ref (ea E 0))] []) : ∀ (σ : St), fX11_readProduct_28 rec10 σ = some (rr, sr) → GW false l (rmD 5) E 2 p e s m args below meth c (MQ below (QI false E rr sr s.heap.size) args s 0 0 (aW false E s.heap.size)) σ 28 [(0, .ref (ea E 0))] [] := by
  intro σ hf H locs ls hP hS hl
  obtain ⟨hx, hb, hr, hml, hown, hts, hlocks, hK, hX, hj⟩ := id C
  unfold fX11_readProduct_28 at hf
  refine lv_aload_n hx hb dX11_readProduct_28 rfl (lv_at hl 0 rfl) ?_
  refine lv_bipush (v := 42) hx hb dX11_readProduct_29 (by decide) ?_
  refine r_cVi (n := 1) (As := [.int 42]) (rest := []) C (c_fX11_isSign hj σ H.size 42) oM_0 rfl gv_RX11_229 (by decide +kernel) (rmD_le (by decide) (by decide)) rfl rfl (Nat.le_of_ble_eq_true rfl) dX11_readProduct_31 hP hS hl.1 (fun H locs hP hS => ?_)
  refine lv_istore_n (lv' := [(1, .int (fX11_isSign σ 42)), (0, .ref (ea E 0))]) hx hb dX11_readProduct_34 rfl hl (by decide) rfl (fun ls hl => ?_)
  refine lv_aload_n hx hb dX11_readProduct_35 rfl (lv_at hl 1 rfl) ?_
  obtain ⟨σ2, hc1, hf⟩ := cv_e hf
  refine r_cVv (n := 0) (As := []) (rest := []) C (c_fX11_reads hj σ H.size hc1) oM_0 rfl gv_RX11_222 (by decide +kernel) (rmD_le (by decide) (by decide)) rfl rfl (Nat.le_of_ble_eq_true rfl) dX11_readProduct_36 hP hS hl.1 (fun H locs hP hS => ?_)
  refine lv_iload_n hx hb dX11_readProduct_39 rfl (lv_at hl 0 rfl) ?_
  refine lv_if_ne (tgt := 57) hx hb dX11_readProduct_40 (by decide) (fun c3 => ?_) (fun c3 => ?_)
  · replace hf := it_f c3 hf
    exact b_fX11_readProduct_57 C rec10 hr10 σ2 (fX11_isSign σ 42) hf H locs ls hP hS (lv_sub hl [1, 0] rfl)
  · replace hf := it_t c3 hf
    refine lv_aload_n hx hb dX11_readProduct_43 rfl (lv_at hl 1 rfl) ?_
    refine r_get (k := 21) (v := .int (σ2 0 21)) C hP oM_0 rfl iX11 (by decide) wm_t1038 rfl rfl dX11_readProduct_44 ?_
    refine lv_iconst (v := 3) hx hb dX11_readProduct_47 (by decide) ?_
    refine lv_icmp_eq (tgt := 57) hx hb dX11_readProduct_48 (by decide) (fun c4 => ?_) (fun c4 => ?_)
    · replace hf := it_t c4 hf
      exact b_fX11_readProduct_57 C rec10 hr10 σ2 (fX11_isSign σ 42) hf H locs ls hP hS (lv_sub hl [1, 0] rfl)
    · replace hf := it_f c4 hf
      refine lv_aload_n hx hb dX11_readProduct_51 rfl (lv_at hl 1 rfl) ?_
      refine lv_iconst (v := 1) hx hb dX11_readProduct_52 (by decide) ?_
      obtain ⟨r5, σ7, hc6, hf⟩ := cb_e hf
      refine r_cVi (n := 1) (As := [.int 1]) (rest := []) C (c_fX11_fails hj σ2 H.size 1 hc6) oM_0 rfl gv_RX11_215 (by decide +kernel) (rmD_le (by decide) (by decide)) rfl rfl (Nat.le_of_ble_eq_true rfl) dX11_readProduct_53 hP hS hl.1 (fun H locs hP hS => ?_)
      cases hf
      exact r_iret C hP hS dX11_readProduct_56
def fX11_readProduct_10B (rec10 : St → Option (Int32 × St)) (σ : St) : Option (Int32 × St) :=
(if (fX11_isSign σ 42) = 0 then
(if (fX11_isSign σ 47) = 0 then
some (0, σ)
else
fX11_readProduct_28 rec10 σ)
else
fX11_readProduct_28 rec10 σ)
set_option maxHeartbeats 4000000 in
theorem b_fX11_readProduct_10B {E : Ev} {l : Launch} {p : Program} {e : Env} {s : State} {m : MethodId} {args : Array Value} {below : List Frame} {meth : Method} {c : Code} (C : CX false E RX11 cX11_readProduct 2 (some .int) p s m args meth c) {rr : Int32} {sr : St} (rec10 : St → Option (Int32 × St)) (hr10 : ∀ (σ : St), rec10 σ = some (rr, sr) → GW false l (rmD 5) E 2 p e s m args below meth c (MQ below (QI false E rr sr s.heap.size) args s 0 0 (aW false E s.heap.size)) σ 10 [(0, .ref (ea E 0))] []) : ∀ (σ : St), fX11_readProduct_10B rec10 σ = some (rr, sr) → GW false l (rmD 5) E 2 p e s m args below meth c (MQ below (QI false E rr sr s.heap.size) args s 0 0 (aW false E s.heap.size)) σ 10 [(0, .ref (ea E 0))] [] := by
  intro σ hf H locs ls hP hS hl
  obtain ⟨hx, hb, hr, hml, hown, hts, hlocks, hK, hX, hj⟩ := id C
  unfold fX11_readProduct_10B at hf
  refine lv_aload_n hx hb dX11_readProduct_10 rfl (lv_at hl 0 rfl) ?_
  refine lv_bipush (v := 42) hx hb dX11_readProduct_11 (by decide) ?_
  refine r_cVi (n := 1) (As := [.int 42]) (rest := []) C (c_fX11_isSign hj σ H.size 42) oM_0 rfl gv_RX11_229 (by decide +kernel) (rmD_le (by decide) (by decide)) rfl rfl (Nat.le_of_ble_eq_true rfl) dX11_readProduct_13 hP hS hl.1 (fun H locs hP hS => ?_)
  refine lv_if_ne (tgt := 28) hx hb dX11_readProduct_16 (by decide) (fun c1 => ?_) (fun c1 => ?_)
  · replace hf := it_f c1 hf
    exact b_fX11_readProduct_28 C rec10 hr10 σ hf H locs ls hP hS (lv_sub hl [0] rfl)
  · replace hf := it_t c1 hf
    refine lv_aload_n hx hb dX11_readProduct_19 rfl (lv_at hl 0 rfl) ?_
    refine lv_bipush (v := 47) hx hb dX11_readProduct_20 (by decide) ?_
    refine r_cVi (n := 1) (As := [.int 47]) (rest := []) C (c_fX11_isSign hj σ H.size 47) oM_0 rfl gv_RX11_229 (by decide +kernel) (rmD_le (by decide) (by decide)) rfl rfl (Nat.le_of_ble_eq_true rfl) dX11_readProduct_22 hP hS hl.1 (fun H locs hP hS => ?_)
    refine lv_if_eq (tgt := 101) hx hb dX11_readProduct_25 (by decide) (fun c2 => ?_) (fun c2 => ?_)
    · replace hf := it_t c2 hf
      refine lv_iconst (v := 0) hx hb dX11_readProduct_101 (by decide) ?_
      cases hf
      exact r_iret C hP hS dX11_readProduct_102
    · replace hf := it_f c2 hf
      exact b_fX11_readProduct_28 C rec10 hr10 σ hf H locs ls hP hS (lv_sub hl [0] rfl)
def fX11_readProduct_10 : Nat → St → Option (Int32 × St)
  | 0 => fun _ => none
  | n + 1 => fun σ => fX11_readProduct_10B (fX11_readProduct_10 n) σ
theorem b_fX11_readProduct_10 {E : Ev} {l : Launch} {p : Program} {e : Env} {s : State} {m : MethodId} {args : Array Value} {below : List Frame} {meth : Method} {c : Code} (C : CX false E RX11 cX11_readProduct 2 (some .int) p s m args meth c) {rr : Int32} {sr : St} : ∀ (n : Nat) (σ : St), fX11_readProduct_10 n σ = some (rr, sr) → GW false l (rmD 5) E 2 p e s m args below meth c (MQ below (QI false E rr sr s.heap.size) args s 0 0 (aW false E s.heap.size)) σ 10 [(0, .ref (ea E 0))] [] := by
  intro n
  induction n with
  | zero => intro σ hf; have hf : (none : Option _) = some _ := hf; cases hf
  | succ n ih => intro σ hf; exact b_fX11_readProduct_10B C (fX11_readProduct_10 n) ih σ hf
def fX11_readProduct (σ : St) : Option (Int32 × St) :=
(cb (fX11_readUnit σ) fun r1 σ3 =>
(if r1 = (-1) then
some ((-1), σ3)
else
fX11_readProduct_10 FU σ3))
set_option maxHeartbeats 4000000 in
theorem c_fX11_readProduct {E : Ev} {l : Launch} (hj : jW false E) (σ : St) (sz : Nat) {rr : Int32} {sr : St} (hf : fX11_readProduct σ = some (rr, sr)) : Met l yX11_readProduct (Cond.code yX11_readProduct cX11_readProduct 2 (some .int) :: gT) (rmD 5) (va_Pc [.ref (ea E 0)] (preW false E σ sz)) (QI false E rr sr sz) 0 0 (aW false E sz) := by
  refine r_entry (QI false E rr sr) hj (by decide) [.ref (ea E 0)] (Nat.le_of_ble_eq_true rfl) (fun p e s m args below meth c C => ?_)
  intro H locs ls hP hS hl
  have hl : lv_has ls 2 [(0, .ref (ea E 0))] := hl
  obtain ⟨hx, hb, hr, hml, hown, hts, hlocks, hK, hX, hj⟩ := id C
  unfold fX11_readProduct at hf
  refine lv_aload_n hx hb dX11_readProduct_0 rfl (lv_at hl 0 rfl) ?_
  obtain ⟨r1, σ3, hc2, hf⟩ := cb_e hf
  refine r_cVi (n := 0) (As := []) (rest := []) C (c_fX11_readUnit hj σ H.size hc2) oM_0 rfl gv_RX11_225 (by decide +kernel) (rmD_le (by decide) (by decide)) rfl rfl (Nat.le_of_ble_eq_true rfl) dX11_readProduct_1 hP hS hl.1 (fun H locs hP hS => ?_)
  refine lv_iconst (v := (-1)) hx hb dX11_readProduct_4 (by decide) ?_
  refine lv_icmp_ne (tgt := 10) hx hb dX11_readProduct_5 (by decide) (fun c4 => ?_) (fun c4 => ?_)
  · replace hf := it_f c4 hf
    exact b_fX11_readProduct_10 C FU σ3 hf H locs ls hP hS (lv_sub hl [0] rfl)
  · replace hf := it_t c4 hf
    refine lv_iconst (v := (-1)) hx hb dX11_readProduct_8 (by decide) ?_
    cases hf
    exact r_iret C hP hS dX11_readProduct_9
