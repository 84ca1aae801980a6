def fX4_addBytes_3B (rec3 : St → Int32 → Int32 → Option (Int32 × St)) (σ : St) (x1 : Int32) (x2 : Int32) : Option (Int32 × St) :=
(if x2 < 0 then
some ((σ 24 1), σ)
else
(if 600 ≤ (σ 24 1) then
some ((σ 24 1), σ)
else
(wrK 600 σ 25 (σ 24 1) (((x1.toUInt32 >>> ((x2 : Int32).toUInt32 &&& Int32.toUInt32 31)).toInt32) &&& 255) fun σ3 =>
(nmS (st_put σ3 24 1 ((σ3 24 1) + 1)) fun σ5 =>
rec3 σ5 x1 (x2 + (-8))))))
set_option maxHeartbeats 4000000 in
theorem b_fX4_addBytes_3B {E : Ev} {l : Launch} {p : Program} {e : Env} {s : State} {m : MethodId} {args : Array Value} {below : List Frame} {meth : Method} {c : Code} (C : CX true E RX4 cX4_addBytes 3 (some .int) p s m args meth c) {rr : Int32} {sr : St} (rec3 : St → Int32 → Int32 → Option (Int32 × St)) (hr3 : ∀ (σ : St) (x1 : Int32) (x2 : Int32), rec3 σ x1 x2 = some (rr, sr) → GW true l (rmD 1) E 3 p e s m args below meth c (MQ below (QI true E rr sr s.heap.size) args s 0 0 (aW true E s.heap.size)) σ 3 [(0, .ref (ea E 24)), (1, .int x1), (2, .int x2)] []) : ∀ (σ : St) (x1 : Int32) (x2 : Int32), fX4_addBytes_3B rec3 σ x1 x2 = some (rr, sr) → GW true l (rmD 1) E 3 p e s m args below meth c (MQ below (QI true E rr sr s.heap.size) args s 0 0 (aW true E s.heap.size)) σ 3 [(0, .ref (ea E 24)), (1, .int x1), (2, .int x2)] [] := by
  intro σ x1 x2 hf H locs ls hP hS hl
  obtain ⟨hx, hb, hr, hml, hown, hts, hlocks, hK, hX, hj⟩ := id C
  unfold fX4_addBytes_3B at hf
  refine lv_iload_n hx hb dX4_addBytes_3 rfl (lv_at hl 2 rfl) ?_
  refine lv_if_lt (tgt := 49) hx hb dX4_addBytes_4 (by decide) (fun c1 => ?_) (fun c1 => ?_)
  · replace hf := it_t c1 hf
    refine lv_aload_n hx hb dX4_addBytes_49 rfl (lv_at hl 0 rfl) ?_
    refine r_get (k := 1) (v := .int (σ 24 1)) C hP oC_24 rfl iX4 (by decide) wm_t163 rfl rfl dX4_addBytes_50 ?_
    cases hf
    exact r_iret C hP hS dX4_addBytes_53
  · replace hf := it_f c1 hf
    refine lv_aload_n hx hb dX4_addBytes_7 rfl (lv_at hl 0 rfl) ?_
    refine r_get (k := 1) (v := .int (σ 24 1)) C hP oC_24 rfl iX4 (by decide) wm_t163 rfl rfl dX4_addBytes_8 ?_
    refine lv_sipush (v := 600) hx hb dX4_addBytes_11 (by decide) ?_
    refine lv_icmp_ge (tgt := 49) hx hb dX4_addBytes_14 (by decide) (fun c2 => ?_) (fun c2 => ?_)
    · replace hf := it_t c2 hf
      refine lv_aload_n hx hb dX4_addBytes_49 rfl (lv_at hl 0 rfl) ?_
      refine r_get (k := 1) (v := .int (σ 24 1)) C hP oC_24 rfl iX4 (by decide) wm_t163 rfl rfl dX4_addBytes_50 ?_
      cases hf
      exact r_iret C hP hS dX4_addBytes_53
    · replace hf := it_f c2 hf
      refine lv_aload_n hx hb dX4_addBytes_17 rfl (lv_at hl 0 rfl) ?_
      refine r_get (k := 0) (v := .ref (ea E 25)) C hP oC_24 rfl iX4 (by decide) wm_t162 rfl rfl dX4_addBytes_18 ?_
      refine lv_aload_n hx hb dX4_addBytes_21 rfl (lv_at hl 0 rfl) ?_
      refine r_get (k := 1) (v := .int (σ 24 1)) C hP oC_24 rfl iX4 (by decide) wm_t163 rfl rfl dX4_addBytes_22 ?_
      refine lv_iload_n hx hb dX4_addBytes_25 rfl (lv_at hl 1 rfl) ?_
      refine lv_iload_n hx hb dX4_addBytes_26 rfl (lv_at hl 2 rfl) ?_
      refine lv_iushr (v := (x1.toUInt32 >>> ((x2 : Int32).toUInt32 &&& Int32.toUInt32 31)).toInt32) hx hb dX4_addBytes_27 rfl ?_
      refine lv_sipush (v := 255) hx hb dX4_addBytes_28 (by decide) ?_
      refine lv_iand hx hb dX4_addBytes_31 ?_
      obtain ⟨h4, σ3, eσ3, hf⟩ := wrK_e hf
      refine r_ast C hP hS aC_25 h4 dX4_addBytes_32 (fun H locs hP hS => ?_)
      rw [← eσ3] at hP
      refine lv_aload_n hx hb dX4_addBytes_33 rfl (lv_at hl 0 rfl) ?_
      refine lv_dup hx hb dX4_addBytes_34 rfl ?_
      refine r_get (k := 1) (v := .int (σ3 24 1)) C hP oC_24 rfl iX4 (by decide) wm_t163 rfl rfl dX4_addBytes_35 ?_
      refine lv_iconst (v := 1) hx hb dX4_addBytes_38 (by decide) ?_
      refine lv_iadd hx hb dX4_addBytes_39 ?_
      refine r_put (k := 1) (x := ((σ3 24 1) + 1)) C hP hS tyX4 tyX4_ok nmX4 oC_24 rfl iX4 (by decide) wm_t163 rfl rfl sC_24_1 rfl rfl (Nat.le_of_ble_eq_true rfl) dX4_addBytes_40 (fun H locs hP hS => ?_)
      obtain ⟨σ5, eσ5, hf⟩ := nmS_e hf
      rw [← eσ5] at hP
      refine lv_iinc (v := (x2 + (-8))) (lv' := [(2, .int (x2 + (-8))), (0, .ref (ea E 24)), (1, .int x1)]) hx hb dX4_addBytes_43 hl (k := 2) rfl rfl (by decide) rfl (fun ls hl => ?_)
      refine lv_goto (tgt := 3) hx hb dX4_addBytes_46 (by decide) ?_
      exact hr3 σ5 x1 (x2 + (-8)) hf H locs ls hP hS (lv_sub hl [1, 2, 0] rfl)
def fX4_addBytes_3 : Nat → St → Int32 → Int32 → Option (Int32 × St)
  | 0 => fun _ _ _ => none
  | n + 1 => fun σ x1 x2 => fX4_addBytes_3B (fX4_addBytes_3 n) σ x1 x2
theorem b_fX4_addBytes_3 {E : Ev} {l : Launch} {p : Program} {e : Env} {s : State} {m : MethodId} {args : Array Value} {below : List Frame} {meth : Method} {c : Code} (C : CX true E RX4 cX4_addBytes 3 (some .int) p s m args meth c) {rr : Int32} {sr : St} : ∀ (n : Nat) (σ : St) (x1 : Int32) (x2 : Int32), fX4_addBytes_3 n σ x1 x2 = some (rr, sr) → GW true l (rmD 1) E 3 p e s m args below meth c (MQ below (QI true E rr sr s.heap.size) args s 0 0 (aW true E s.heap.size)) σ 3 [(0, .ref (ea E 24)), (1, .int x1), (2, .int x2)] [] := by
  intro n
  induction n with
  | zero => intro σ x1 x2 hf; have hf : (none : Option _) = some _ := hf; cases hf
  | succ n ih => intro σ x1 x2 hf; exact b_fX4_addBytes_3B C (fX4_addBytes_3 n) ih σ x1 x2 hf
def fX4_addBytes (σ : St) (a0 : Int32) : Option (Int32 × St) :=
fX4_addBytes_3 FU σ a0 24
set_option maxHeartbeats 4000000 in
theorem c_fX4_addBytes {E : Ev} {l : Launch} (hj : jW true E) (σ : St) (sz : Nat) (a0 : Int32) {rr : Int32} {sr : St} (hf : fX4_addBytes σ a0 = some (rr, sr)) : Met l yX4_addBytes (Cond.code yX4_addBytes cX4_addBytes 3 (some .int) :: gT) (rmD 1) (va_Pc [.ref (ea E 24), .int a0] (preW true E σ sz)) (QI true E rr sr sz) 0 0 (aW true E sz) := by
  refine r_entry (QI true E rr sr) hj (by decide) [.ref (ea E 24), .int a0] (Nat.le_of_ble_eq_true rfl) (fun p e s m args below meth c C => ?_)
  intro H locs ls hP hS hl
  have hl : lv_has ls 3 [(0, .ref (ea E 24)), (1, .int a0)] := hl
  obtain ⟨hx, hb, hr, hml, hown, hts, hlocks, hK, hX, hj⟩ := id C
  unfold fX4_addBytes at hf
  refine lv_bipush (v := 24) hx hb dX4_addBytes_0 (by decide) ?_
  refine lv_istore_n (lv' := [(2, .int 24), (0, .ref (ea E 24)), (1, .int a0)]) hx hb dX4_addBytes_2 rfl hl (by decide) rfl (fun ls hl => ?_)
  exact b_fX4_addBytes_3 C FU σ a0 24 hf H locs ls hP hS (lv_sub hl [1, 2, 0] rfl)
def fX4_cutTo (σ : St) (a0 : Int32) : Option (Int32 × St) :=
(if a0 < 0 then
some (0, σ)
else
(if a0 ≤ (σ 24 1) then
(nmS (st_put σ 24 1 a0) fun σ3 =>
some (1, σ3))
else
some (0, σ)))
set_option maxHeartbeats 4000000 in
theorem c_fX4_cutTo {E : Ev} {l : Launch} (hj : jW true E) (σ : St) (sz : Nat) (a0 : Int32) {rr : Int32} {sr : St} (hf : fX4_cutTo σ a0 = some (rr, sr)) : Met l yX4_cutTo (Cond.code yX4_cutTo cX4_cutTo 2 (some .boolean) :: gT) (rmD 1) (va_Pc [.ref (ea E 24), .int a0] (preW true E σ sz)) (QI true E rr sr sz) 0 0 (aW true E sz) := by
  refine r_entry (QI true E rr sr) hj (by decide) [.ref (ea E 24), .int a0] (Nat.le_of_ble_eq_true rfl) (fun p e s m args below meth c C => ?_)
  intro H locs ls hP hS hl
  have hl : lv_has ls 2 [(0, .ref (ea E 24)), (1, .int a0)] := hl
  obtain ⟨hx, hb, hr, hml, hown, hts, hlocks, hK, hX, hj⟩ := id C
  unfold fX4_cutTo at hf
  refine lv_iload_n hx hb dX4_cutTo_0 rfl (lv_at hl 1 rfl) ?_
  refine lv_if_lt (tgt := 12) hx hb dX4_cutTo_1 (by decide) (fun c1 => ?_) (fun c1 => ?_)
  · replace hf := it_t c1 hf
    refine lv_iconst (v := 0) hx hb dX4_cutTo_12 (by decide) ?_
    cases hf
    exact r_zret C rfl hP hS dX4_cutTo_13
  · replace hf := it_f c1 hf
    refine lv_iload_n hx hb dX4_cutTo_4 rfl (lv_at hl 1 rfl) ?_
    refine lv_aload_n hx hb dX4_cutTo_5 rfl (lv_at hl 0 rfl) ?_
    refine r_get (k := 1) (v := .int (σ 24 1)) C hP oC_24 rfl iX4 (by decide) wm_t163 rfl rfl dX4_cutTo_6 ?_
    refine lv_icmp_le (tgt := 14) hx hb dX4_cutTo_9 (by decide) (fun c2 => ?_) (fun c2 => ?_)
    · replace hf := it_t c2 hf
      refine lv_aload_n hx hb dX4_cutTo_14 rfl (lv_at hl 0 rfl) ?_
      refine lv_iload_n hx hb dX4_cutTo_15 rfl (lv_at hl 1 rfl) ?_
      refine r_put (k := 1) (x := a0) C hP hS tyX4 tyX4_ok nmX4 oC_24 rfl iX4 (by decide) wm_t163 rfl rfl sC_24_1 rfl rfl (Nat.le_of_ble_eq_true rfl) dX4_cutTo_16 (fun H locs hP hS => ?_)
      obtain ⟨σ3, eσ3, hf⟩ := nmS_e hf
      rw [← eσ3] at hP
      refine lv_iconst (v := 1) hx hb dX4_cutTo_19 (by decide) ?_
      cases hf
      exact r_zret C rfl hP hS dX4_cutTo_20
    · replace hf := it_f c2 hf
      refine lv_iconst (v := 0) hx hb dX4_cutTo_12 (by decide) ?_
      cases hf
      exact r_zret C rfl hP hS dX4_cutTo_13
def fX4_exchange (w : Nat) (σ : St) : Option (Nat × St) :=
(gw (σ 24 7) fun w1 =>
(nmS (st_put σ 24 7 (nI w)) fun σ2 =>
some (w1, σ2)))
set_option maxHeartbeats 4000000 in
theorem c_fX4_exchange {E : Ev} {l : Launch} {w : Nat} (hfw : fW w) (hj : jW true E) (σ : St) (sz : Nat) {rr : Nat} {sr : St} (hf : fX4_exchange w σ = some (rr, sr)) : Met l yX4_exchange (Cond.code yX4_exchange cX4_exchange 3 (some (.object "SoupCargo$Words")) :: gT) (rmD 1) (va_Pc [.ref (ea E 24), .ref (ea E w)] (preW true E σ sz)) (QR true E rr sr sz) 0 0 (aW true E sz) := by
  refine r_entry (QR true E rr sr) hj (by decide) [.ref (ea E 24), .ref (ea E w)] (Nat.le_of_ble_eq_true rfl) (fun p e s m args below meth c C => ?_)
  intro H locs ls hP hS hl
  have hl : lv_has ls 3 [(0, .ref (ea E 24)), (1, .ref (ea E w))] := hl
  obtain ⟨hx, hb, hr, hml, hown, hts, hlocks, hK, hX, hj⟩ := id C
  unfold fX4_exchange at hf
  refine lv_aload_n hx hb dX4_exchange_0 rfl (lv_at hl 0 rfl) ?_
  refine r_get (k := 7) (v := .ref (ea E (σ 24 7).toNatClampNeg)) C hP oC_24 rfl iX4 (by decide) wm_t169 rfl rfl dX4_exchange_1 ?_
  obtain ⟨w1, ew1, hw1, hf⟩ := gw_e hf
  rw [ew1]
  refine lv_astore_n (lv' := [(2, .ref (ea E w1)), (0, .ref (ea E 24)), (1, .ref (ea E w))]) hx hb dX4_exchange_4 rfl hl (by decide) rfl (fun ls hl => ?_)
  refine lv_aload_n hx hb dX4_exchange_5 rfl (lv_at hl 1 rfl) ?_
  refine lv_aload_n hx hb dX4_exchange_6 rfl (lv_at hl 2 rfl) ?_
  refine r_put (k := 7) (x := (nI w)) C hP hS tyX4 tyX4_ok nmX4 oC_24 rfl iX4 (by decide) wm_t169 rfl rfl (sC_24_7 hfw) rfl rfl (Nat.le_of_ble_eq_true rfl) dX4_exchange_7 (fun H locs hP hS => ?_)
  obtain ⟨σ2, eσ2, hf⟩ := nmS_e hf
  rw [← eσ2] at hP
  refine lv_aload_n hx hb dX4_exchange_10 rfl (lv_at hl 0 rfl) ?_
  cases hf
  exact r_aret C hP hS dX4_exchange_11
theorem h_fX4_exchange {w : Nat} (hfw : fW w) {σ : St} {rr : Nat} {sr : St} (hf : fX4_exchange w σ = some (rr, sr)) : fW rr := by
  unfold fX4_exchange at hf
  obtain ⟨w1, e1, h1, hf⟩ := gw_e hf
  obtain ⟨s1, e2, hf⟩ := nmS_e hf
  cases hf
  exact h1
def fX4_isLetter_12 (x0 : Int32) : Int32 :=
(if x0 < 65 then
0
else
(if 90 < x0 then
0
else
1))
set_option maxHeartbeats 4000000 in
theorem b_fX4_isLetter_12 {E : Ev} {l : Launch} {p : Program} {e : Env} {s : State} {m : MethodId} {args : Array Value} {below : List Frame} {meth : Method} {c : Code} (σ : St) (C : CX true E RX4 cX4_isLetter 1 (some .boolean) p s m args meth c) {rr : Int32} : ∀  (x0 : Int32), fX4_isLetter_12 x0 = rr → GW true l (rmD 1) E 1 p e s m args below meth c (MQ below (QI true E rr σ s.heap.size) args s 0 0 (aW true E s.heap.size)) σ 12 [(0, .int x0)] [] := by
  intro x0 hf H locs ls hP hS hl
  obtain ⟨hx, hb, hr, hml, hown, hts, hlocks, hK, hX, hj⟩ := id C
  unfold fX4_isLetter_12 at hf
  refine lv_iload_n hx hb dX4_isLetter_12 rfl (lv_at hl 0 rfl) ?_
  refine lv_bipush (v := 65) hx hb dX4_isLetter_13 (by decide) ?_
  refine lv_icmp_lt (tgt := 28) hx hb dX4_isLetter_15 (by decide) (fun c1 => ?_) (fun c1 => ?_)
  · replace hf := it_t c1 hf
    refine lv_iconst (v := 0) hx hb dX4_isLetter_28 (by decide) ?_
    subst hf
    exact r_zret C rfl hP hS dX4_isLetter_29
  · replace hf := it_f c1 hf
    refine lv_iload_n hx hb dX4_isLetter_18 rfl (lv_at hl 0 rfl) ?_
    refine lv_bipush (v := 90) hx hb dX4_isLetter_19 (by decide) ?_
    refine lv_icmp_gt (tgt := 28) hx hb dX4_isLetter_21 (by decide) (fun c2 => ?_) (fun c2 => ?_)
    · replace hf := it_t c2 hf
      refine lv_iconst (v := 0) hx hb dX4_isLetter_28 (by decide) ?_
      subst hf
      exact r_zret C rfl hP hS dX4_isLetter_29
    · replace hf := it_f c2 hf
      refine lv_iconst (v := 1) hx hb dX4_isLetter_24 (by decide) ?_
      refine lv_goto (tgt := 29) hx hb dX4_isLetter_25 (by decide) ?_
      subst hf
      exact r_zret C rfl hP hS dX4_isLetter_29
def fX4_isLetter (a0 : Int32) : Int32 :=
(if a0 < 97 then
fX4_isLetter_12 a0
else
(if a0 ≤ 122 then
1
else
fX4_isLetter_12 a0))
set_option maxHeartbeats 4000000 in
theorem c_fX4_isLetter {E : Ev} {l : Launch} (hj : jW true E) (σ : St) (sz : Nat) (a0 : Int32) : Met l yX4_isLetter (Cond.code yX4_isLetter cX4_isLetter 1 (some .boolean) :: gT) (rmD 1) (va_Pc [.int a0] (preW true E σ sz)) (QI true E (fX4_isLetter a0) σ sz) 0 0 (aW true E sz) := by
  refine r_entry (QI true E (fX4_isLetter a0) σ) hj (by decide) [.int a0] (Nat.le_of_ble_eq_true rfl) (fun p e s m args below meth c C => ?_)
  intro H locs ls hP hS hl
  have hl : lv_has ls 1 [(0, .int a0)] := hl
  obtain ⟨hx, hb, hr, hml, hown, hts, hlocks, hK, hX, hj⟩ := id C
  generalize hf : fX4_isLetter a0 = rr
  unfold fX4_isLetter at hf
  refine lv_iload_n hx hb dX4_isLetter_0 rfl (lv_at hl 0 rfl) ?_
  refine lv_bipush (v := 97) hx hb dX4_isLetter_1 (by decide) ?_
  refine lv_icmp_lt (tgt := 12) hx hb dX4_isLetter_3 (by decide) (fun c1 => ?_) (fun c1 => ?_)
  · replace hf := it_t c1 hf
    exact b_fX4_isLetter_12 σ C a0 hf H locs ls hP hS (lv_sub hl [0] rfl)
  · replace hf := it_f c1 hf
    refine lv_iload_n hx hb dX4_isLetter_6 rfl (lv_at hl 0 rfl) ?_
    refine lv_bipush (v := 122) hx hb dX4_isLetter_7 (by decide) ?_
    refine lv_icmp_le (tgt := 24) hx hb dX4_isLetter_9 (by decide) (fun c2 => ?_) (fun c2 => ?_)
    · replace hf := it_t c2 hf
      refine lv_iconst (v := 1) hx hb dX4_isLetter_24 (by decide) ?_
      refine lv_goto (tgt := 29) hx hb dX4_isLetter_25 (by decide) ?_
      subst hf
      exact r_zret C rfl hP hS dX4_isLetter_29
    · replace hf := it_f c2 hf
      exact b_fX4_isLetter_12 σ C a0 hf H locs ls hP hS (lv_sub hl [0] rfl)
theorem z_fX4_isLetter (a0 : Int32) : fX4_isLetter a0 = 0 ∨ fX4_isLetter a0 = 1 := by
  unfold fX4_isLetter
  try unfold fX4_isLetter_12
  repeat' split
  all_goals first | exact Or.inl rfl | exact Or.inr rfl
def fX4_isDigit (a0 : Int32) : Int32 :=
(if a0 < 48 then
0
else
(if 57 < a0 then
0
else
1))
set_option maxHeartbeats 4000000 in
theorem c_fX4_isDigit {E : Ev} {l : Launch} (hj : jW true E) (σ : St) (sz : Nat) (a0 : Int32) : Met l yX4_isDigit (Cond.code yX4_isDigit cX4_isDigit 1 (some .boolean) :: gT) (rmD 1) (va_Pc [.int a0] (preW true E σ sz)) (QI true E (fX4_isDigit a0) σ sz) 0 0 (aW true E sz) := by
  refine r_entry (QI true E (fX4_isDigit a0) σ) hj (by decide) [.int a0] (Nat.le_of_ble_eq_true rfl) (fun p e s m args below meth c C => ?_)
  intro H locs ls hP hS hl
  have hl : lv_has ls 1 [(0, .int a0)] := hl
  obtain ⟨hx, hb, hr, hml, hown, hts, hlocks, hK, hX, hj⟩ := id C
  generalize hf : fX4_isDigit a0 = rr
  unfold fX4_isDigit at hf
  refine lv_iload_n hx hb dX4_isDigit_0 rfl (lv_at hl 0 rfl) ?_
  refine lv_bipush (v := 48) hx hb dX4_isDigit_1 (by decide) ?_
  refine lv_icmp_lt (tgt := 16) hx hb dX4_isDigit_3 (by decide) (fun c1 => ?_) (fun c1 => ?_)
  · replace hf := it_t c1 hf
    refine lv_iconst (v := 0) hx hb dX4_isDigit_16 (by decide) ?_
    subst hf
    exact r_zret C rfl hP hS dX4_isDigit_17
  · replace hf := it_f c1 hf
    refine lv_iload_n hx hb dX4_isDigit_6 rfl (lv_at hl 0 rfl) ?_
    refine lv_bipush (v := 57) hx hb dX4_isDigit_7 (by decide) ?_
    refine lv_icmp_gt (tgt := 16) hx hb dX4_isDigit_9 (by decide) (fun c2 => ?_) (fun c2 => ?_)
    · replace hf := it_t c2 hf
      refine lv_iconst (v := 0) hx hb dX4_isDigit_16 (by decide) ?_
      subst hf
      exact r_zret C rfl hP hS dX4_isDigit_17
    · replace hf := it_f c2 hf
      refine lv_iconst (v := 1) hx hb dX4_isDigit_12 (by decide) ?_
      refine lv_goto (tgt := 17) hx hb dX4_isDigit_13 (by decide) ?_
      subst hf
      exact r_zret C rfl hP hS dX4_isDigit_17
theorem z_fX4_isDigit (a0 : Int32) : fX4_isDigit a0 = 0 ∨ fX4_isDigit a0 = 1 := by
  unfold fX4_isDigit
  repeat' split
  all_goals first | exact Or.inl rfl | exact Or.inr rfl
def fX4_runEnd_2B (σ : St) (rec2 : Int32 → Int32 → Option Int32) (x2 : Int32) (x3 : Int32) : Option Int32 :=
(if (σ 24 1) ≤ x3 then
some x3
else
(if x2 = 0 then
(rdK 600 (σ 25) x3 fun v3 =>
(if (fX4_isDigit v3) = 0 then
some x3
else
rec2 x2 (x3 + 1)))
else
(rdK 600 (σ 25) x3 fun v6 =>
(if (fX4_isLetter v6) = 0 then
some x3
else
rec2 x2 (x3 + 1)))))
set_option maxHeartbeats 4000000 in
theorem b_fX4_runEnd_2B {E : Ev} {l : Launch} {p : Program} {e : Env} {s : State} {m : MethodId} {args : Array Value} {below : List Frame} {meth : Method} {c : Code} (σ : St) (C : CX true E RX4 cX4_runEnd 4 (some .int) p s m args meth c) {rr : Int32} (rec2 : Int32 → Int32 → Option Int32) (hr2 : ∀  (x2 : Int32) (x3 : Int32), rec2 x2 x3 = some rr → GW true l (rmD 2) E 4 p e s m args below meth c (MQ below (QI true E rr σ s.heap.size) args s 0 0 (aW true E s.heap.size)) σ 2 [(0, .ref (ea E 24)), (2, .int x2), (3, .int x3)] []) : ∀  (x2 : Int32) (x3 : Int32), fX4_runEnd_2B σ rec2 x2 x3 = some rr → GW true l (rmD 2) E 4 p e s m args below meth c (MQ below (QI true E rr σ s.heap.size) args s 0 0 (aW true E s.heap.size)) σ 2 [(0, .ref (ea E 24)), (2, .int x2), (3, .int x3)] [] := by
  intro x2 x3 hf H locs ls hP hS hl
  obtain ⟨hx, hb, hr, hml, hown, hts, hlocks, hK, hX, hj⟩ := id C
  unfold fX4_runEnd_2B at hf
  refine lv_iload_n hx hb dX4_runEnd_2 rfl (lv_at hl 2 rfl) ?_
  refine lv_aload_n hx hb dX4_runEnd_3 rfl (lv_at hl 0 rfl) ?_
  refine r_get (k := 1) (v := .int (σ 24 1)) C hP oC_24 rfl iX4 (by decide) wm_t163 rfl rfl dX4_runEnd_4 ?_
  refine lv_icmp_ge (tgt := 47) hx hb dX4_runEnd_7 (by decide) (fun c1 => ?_) (fun c1 => ?_)
  · replace hf := it_t c1 hf
    refine lv_iload_n hx hb dX4_runEnd_47 rfl (lv_at hl 2 rfl) ?_
    cases hf
    exact r_iret C hP hS dX4_runEnd_48
  · replace hf := it_f c1 hf
    refine lv_iload_n hx hb dX4_runEnd_10 rfl (lv_at hl 1 rfl) ?_
    refine lv_if_eq (tgt := 29) hx hb dX4_runEnd_11 (by decide) (fun c2 => ?_) (fun c2 => ?_)
    · replace hf := it_t c2 hf
      refine lv_aload_n hx hb dX4_runEnd_29 rfl (lv_at hl 0 rfl) ?_
      refine r_get (k := 0) (v := .ref (ea E 25)) C hP oC_24 rfl iX4 (by decide) wm_t162 rfl rfl dX4_runEnd_30 ?_
      refine lv_iload_n hx hb dX4_runEnd_33 rfl (lv_at hl 2 rfl) ?_
      have h4 := (rdK_e hf).1
      refine r_ald C hP aC_25 h4 dX4_runEnd_34 ?_
      refine lv_topi (fun v3 ev3 => ?_)
      replace hf := rdK_n ev3 hf
      refine r_cSi (n := 1) (As := [.int v3]) (rest := []) C (c_fX4_isDigit hj σ H.size v3) gs_RX4_70 (by decide +kernel) (rmD_le (by decide) (by decide)) rfl rfl (Nat.le_of_ble_eq_true rfl) dX4_runEnd_35 hP hS hl.1 (fun H locs hP hS => ?_)
      refine lv_if_eq (tgt := 47) hx hb dX4_runEnd_38 (by decide) (fun c5 => ?_) (fun c5 => ?_)
      · replace hf := it_t c5 hf
        refine lv_iload_n hx hb dX4_runEnd_47 rfl (lv_at hl 2 rfl) ?_
        cases hf
        exact r_iret C hP hS dX4_runEnd_48
      · replace hf := it_f c5 hf
        refine lv_iinc (v := (x3 + 1)) (lv' := [(3, .int (x3 + 1)), (0, .ref (ea E 24)), (2, .int x2)]) hx hb dX4_runEnd_41 hl (k := 2) rfl rfl (by decide) rfl (fun ls hl => ?_)
        refine lv_goto (tgt := 2) hx hb dX4_runEnd_44 (by decide) ?_
        exact hr2 x2 (x3 + 1) hf H locs ls hP hS (lv_sub hl [1, 2, 0] rfl)
    · replace hf := it_f c2 hf
      refine lv_aload_n hx hb dX4_runEnd_14 rfl (lv_at hl 0 rfl) ?_
      refine r_get (k := 0) (v := .ref (ea E 25)) C hP oC_24 rfl iX4 (by decide) wm_t162 rfl rfl dX4_runEnd_15 ?_
      refine lv_iload_n hx hb dX4_runEnd_18 rfl (lv_at hl 2 rfl) ?_
      have h7 := (rdK_e hf).1
      refine r_ald C hP aC_25 h7 dX4_runEnd_19 ?_
      refine lv_topi (fun v6 ev6 => ?_)
      replace hf := rdK_n ev6 hf
      refine r_cSi (n := 1) (As := [.int v6]) (rest := []) C (c_fX4_isLetter hj σ H.size v6) gs_RX4_58 (by decide +kernel) (rmD_le (by decide) (by decide)) rfl rfl (Nat.le_of_ble_eq_true rfl) dX4_runEnd_20 hP hS hl.1 (fun H locs hP hS => ?_)
      refine lv_if_eq (tgt := 47) hx hb dX4_runEnd_23 (by decide) (fun c8 => ?_) (fun c8 => ?_)
      · replace hf := it_t c8 hf
        refine lv_iload_n hx hb dX4_runEnd_47 rfl (lv_at hl 2 rfl) ?_
        cases hf
        exact r_iret C hP hS dX4_runEnd_48
      · replace hf := it_f c8 hf
        refine lv_goto (tgt := 41) hx hb dX4_runEnd_26 (by decide) ?_
        refine lv_iinc (v := (x3 + 1)) (lv' := [(3, .int (x3 + 1)), (0, .ref (ea E 24)), (2, .int x2)]) hx hb dX4_runEnd_41 hl (k := 2) rfl rfl (by decide) rfl (fun ls hl => ?_)
        refine lv_goto (tgt := 2) hx hb dX4_runEnd_44 (by decide) ?_
        exact hr2 x2 (x3 + 1) hf H locs ls hP hS (lv_sub hl [1, 2, 0] rfl)
def fX4_runEnd_2 (σ : St) : Nat → Int32 → Int32 → Option Int32
  | 0 => fun _ _ => none
  | n + 1 => fun x2 x3 => fX4_runEnd_2B σ (fX4_runEnd_2 σ n) x2 x3
theorem b_fX4_runEnd_2 {E : Ev} {l : Launch} {p : Program} {e : Env} {s : State} {m : MethodId} {args : Array Value} {below : List Frame} {meth : Method} {c : Code} (σ : St) (C : CX true E RX4 cX4_runEnd 4 (some .int) p s m args meth c) {rr : Int32} : ∀ (n : Nat) (x2 : Int32) (x3 : Int32), fX4_runEnd_2 σ n x2 x3 = some rr → GW true l (rmD 2) E 4 p e s m args below meth c (MQ below (QI true E rr σ s.heap.size) args s 0 0 (aW true E s.heap.size)) σ 2 [(0, .ref (ea E 24)), (2, .int x2), (3, .int x3)] [] := by
  intro n
  induction n with
  | zero => intro x2 x3 hf; have hf : (none : Option _) = some _ := hf; cases hf
  | succ n ih => intro x2 x3 hf; exact b_fX4_runEnd_2B σ C (fX4_runEnd_2 σ n) ih x2 x3 hf
def fX4_runEnd (σ : St) (a0 : Int32) (a1 : Int32) : Option Int32 :=
fX4_runEnd_2 σ FU a1 a0
set_option maxHeartbeats 4000000 in
theorem c_fX4_runEnd {E : Ev} {l : Launch} (hj : jW true E) (σ : St) (sz : Nat) (a0 : Int32) (a1 : Int32) {rr : Int32} (hf : fX4_runEnd σ a0 a1 = some rr) : Met l yX4_runEnd (Cond.code yX4_runEnd cX4_runEnd 4 (some .int) :: gT) (rmD 2) (va_Pc [.ref (ea E 24), .int a0, .int a1] (preW true E σ sz)) (QI true E rr σ sz) 0 0 (aW true E sz) := by
  refine r_entry (QI true E rr σ) hj (by decide) [.ref (ea E 24), .int a0, .int a1] (Nat.le_of_ble_eq_true rfl) (fun p e s m args below meth c C => ?_)
  intro H locs ls hP hS hl
  have hl : lv_has ls 4 [(0, .ref (ea E 24)), (1, .int a0), (2, .int a1)] := hl
  obtain ⟨hx, hb, hr, hml, hown, hts, hlocks, hK, hX, hj⟩ := id C
  unfold fX4_runEnd at hf
  refine lv_iload_n hx hb dX4_runEnd_0 rfl (lv_at hl 1 rfl) ?_
  refine lv_istore_n (lv' := [(3, .int a0), (0, .ref (ea E 24)), (1, .int a0), (2, .int a1)]) hx hb dX4_runEnd_1 rfl hl (by decide) rfl (fun ls hl => ?_)
  exact b_fX4_runEnd_2 σ C FU a1 a0 hf H locs ls hP hS (lv_sub hl [1, 3, 0] rfl)
def fX4_numberKind_14B (σ : St) (rec14 : Int32 → Int32 → Int32 → Option Int32) (x2 : Int32) (x3 : Int32) (x4 : Int32) : Option Int32 :=
(if x2 ≤ x4 then
some (1000 + x3)
else
(rdK 600 (σ 25) x4 fun v2 =>
rec14 x2 (((10 * x3) + v2) - 48) (x4 + 1)))
set_option maxHeartbeats 4000000 in
theorem b_fX4_numberKind_14B {E : Ev} {l : Launch} {p : Program} {e : Env} {s : State} {m : MethodId} {args : Array Value} {below : List Frame} {meth : Method} {c : Code} (σ : St) (C : CX true E RX4 cX4_numberKind 5 (some .int) p s m args meth c) {rr : Int32} (rec14 : Int32 → Int32 → Int32 → Option Int32) (hr14 : ∀  (x2 : Int32) (x3 : Int32) (x4 : Int32), rec14 x2 x3 x4 = some rr → GW true l (rmD 1) E 5 p e s m args below meth c (MQ below (QI true E rr σ s.heap.size) args s 0 0 (aW true E s.heap.size)) σ 14 [(0, .ref (ea E 24)), (2, .int x2), (3, .int x3), (4, .int x4)] []) : ∀  (x2 : Int32) (x3 : Int32) (x4 : Int32), fX4_numberKind_14B σ rec14 x2 x3 x4 = some rr → GW true l (rmD 1) E 5 p e s m args below meth c (MQ below (QI true E rr σ s.heap.size) args s 0 0 (aW true E s.heap.size)) σ 14 [(0, .ref (ea E 24)), (2, .int x2), (3, .int x3), (4, .int x4)] [] := by
  intro x2 x3 x4 hf H locs ls hP hS hl
  obtain ⟨hx, hb, hr, hml, hown, hts, hlocks, hK, hX, hj⟩ := id C
  unfold fX4_numberKind_14B at hf
  refine lv_iload hx hb dX4_numberKind_14 (lv_at hl 3 rfl) ?_
  refine lv_iload_n hx hb dX4_numberKind_16 rfl (lv_at hl 1 rfl) ?_
  refine lv_icmp_ge (tgt := 42) hx hb dX4_numberKind_17 (by decide) (fun c1 => ?_) (fun c1 => ?_)
  · replace hf := it_t c1 hf
    refine lv_sipush (v := 1000) hx hb dX4_numberKind_42 (by decide) ?_
    refine lv_iload_n hx hb dX4_numberKind_45 rfl (lv_at hl 2 rfl) ?_
    refine lv_iadd hx hb dX4_numberKind_46 ?_
    cases hf
    exact r_iret C hP hS dX4_numberKind_47
  · replace hf := it_f c1 hf
    refine lv_bipush (v := 10) hx hb dX4_numberKind_20 (by decide) ?_
    refine lv_iload_n hx hb dX4_numberKind_22 rfl (lv_at hl 2 rfl) ?_
    refine lv_imul hx hb dX4_numberKind_23 ?_
    refine lv_aload_n hx hb dX4_numberKind_24 rfl (lv_at hl 0 rfl) ?_
    refine r_get (k := 0) (v := .ref (ea E 25)) C hP oC_24 rfl iX4 (by decide) wm_t162 rfl rfl dX4_numberKind_25 ?_
    refine lv_iload hx hb dX4_numberKind_28 (lv_at hl 3 rfl) ?_
    have h3 := (rdK_e hf).1
    refine r_ald C hP aC_25 h3 dX4_numberKind_30 ?_
    refine lv_topi (fun v2 ev2 => ?_)
    replace hf := rdK_n ev2 hf
    refine lv_iadd hx hb dX4_numberKind_31 ?_
    refine lv_bipush (v := 48) hx hb dX4_numberKind_32 (by decide) ?_
    refine lv_isub hx hb dX4_numberKind_34 ?_
    refine lv_istore_n (lv' := [(3, .int (((10 * x3) + v2) - 48)), (0, .ref (ea E 24)), (2, .int x2), (4, .int x4)]) hx hb dX4_numberKind_35 rfl hl (by decide) rfl (fun ls hl => ?_)
    refine lv_iinc (v := (x4 + 1)) (lv' := [(4, .int (x4 + 1)), (3, .int (((10 * x3) + v2) - 48)), (0, .ref (ea E 24)), (2, .int x2)]) hx hb dX4_numberKind_36 hl (k := 3) rfl rfl (by decide) rfl (fun ls hl => ?_)
    refine lv_goto (tgt := 14) hx hb dX4_numberKind_39 (by decide) ?_
    exact hr14 x2 (((10 * x3) + v2) - 48) (x4 + 1) hf H locs ls hP hS (lv_sub hl [2, 3, 1, 0] rfl)
def fX4_numberKind_14 (σ : St) : Nat → Int32 → Int32 → Int32 → Option Int32
  | 0 => fun _ _ _ => none
  | n + 1 => fun x2 x3 x4 => fX4_numberKind_14B σ (fX4_numberKind_14 σ n) x2 x3 x4
theorem b_fX4_numberKind_14 {E : Ev} {l : Launch} {p : Program} {e : Env} {s : State} {m : MethodId} {args : Array Value} {below : List Frame} {meth : Method} {c : Code} (σ : St) (C : CX true E RX4 cX4_numberKind 5 (some .int) p s m args meth c) {rr : Int32} : ∀ (n : Nat) (x2 : Int32) (x3 : Int32) (x4 : Int32), fX4_numberKind_14 σ n x2 x3 x4 = some rr → GW true l (rmD 1) E 5 p e s m args below meth c (MQ below (QI true E rr σ s.heap.size) args s 0 0 (aW true E s.heap.size)) σ 14 [(0, .ref (ea E 24)), (2, .int x2), (3, .int x3), (4, .int x4)] [] := by
  intro n
  induction n with
  | zero => intro x2 x3 x4 hf; have hf : (none : Option _) = some _ := hf; cases hf
  | succ n ih => intro x2 x3 x4 hf; exact b_fX4_numberKind_14B σ C (fX4_numberKind_14 σ n) ih x2 x3 x4 hf
def fX4_numberKind (σ : St) (a0 : Int32) (a1 : Int32) : Option Int32 :=
(if (a1 - a0) ≤ 4 then
fX4_numberKind_14 σ FU a1 0 a0
else
some 1)
set_option maxHeartbeats 4000000 in
theorem c_fX4_numberKind {E : Ev} {l : Launch} (hj : jW true E) (σ : St) (sz : Nat) (a0 : Int32) (a1 : Int32) {rr : Int32} (hf : fX4_numberKind σ a0 a1 = some rr) : Met l yX4_numberKind (Cond.code yX4_numberKind cX4_numberKind 5 (some .int) :: gT) (rmD 1) (va_Pc [.ref (ea E 24), .int a0, .int a1] (preW true E σ sz)) (QI true E rr σ sz) 0 0 (aW true E sz) := by
  refine r_entry (QI true E rr σ) hj (by decide) [.ref (ea E 24), .int a0, .int a1] (Nat.le_of_ble_eq_true rfl) (fun p e s m args below meth c C => ?_)
  intro H locs ls hP hS hl
  have hl : lv_has ls 5 [(0, .ref (ea E 24)), (1, .int a0), (2, .int a1)] := hl
  obtain ⟨hx, hb, hr, hml, hown, hts, hlocks, hK, hX, hj⟩ := id C
  unfold fX4_numberKind at hf
  refine lv_iload_n hx hb dX4_numberKind_0 rfl (lv_at hl 2 rfl) ?_
  refine lv_iload_n hx hb dX4_numberKind_1 rfl (lv_at hl 1 rfl) ?_
  refine lv_isub hx hb dX4_numberKind_2 ?_
  refine lv_iconst (v := 4) hx hb dX4_numberKind_3 (by decide) ?_
  refine lv_icmp_le (tgt := 9) hx hb dX4_numberKind_4 (by decide) (fun c1 => ?_) (fun c1 => ?_)
  · replace hf := it_t c1 hf
    refine lv_iconst (v := 0) hx hb dX4_numberKind_9 (by decide) ?_
    refine lv_istore_n (lv' := [(3, .int 0), (0, .ref (ea E 24)), (1, .int a0), (2, .int a1)]) hx hb dX4_numberKind_10 rfl hl (by decide) rfl (fun ls hl => ?_)
    refine lv_iload_n hx hb dX4_numberKind_11 rfl (lv_at hl 2 rfl) ?_
    refine lv_istore (lv' := [(4, .int a0), (3, .int 0), (0, .ref (ea E 24)), (1, .int a0), (2, .int a1)]) hx hb dX4_numberKind_12 hl (by decide) rfl (fun ls hl => ?_)
    exact b_fX4_numberKind_14 σ C FU a1 0 a0 hf H locs ls hP hS (lv_sub hl [2, 4, 1, 0] rfl)
  · replace hf := it_f c1 hf
    refine lv_iconst (v := 1) hx hb dX4_numberKind_7 (by decide) ?_
    cases hf
    exact r_iret C hP hS dX4_numberKind_8
def fX4_wordKind_29B (σ : St) (rec29 : Int32 → Int32 → Nat → Int32 → Int32 → Int32 → Int32 → Option Int32) (x1 : Int32) (x2 : Int32) (k3 : Nat) (x4 : Int32) (x5 : Int32) (x6 : Int32) (x7 : Int32) : Option Int32 :=
(if (fJ0_length_8abf5 k3) ≤ x7 then
(if x6 = 0 then
some 1
else
(if x5 = x2 then
some x4
else
some 1))
else
(cq (fJ0_charAt_5068e k3 x7) fun r4 =>
(if r4 = 32 then
(if x6 = 0 then
rec29 x1 x2 k3 (x4 + 1) x1 1 (x7 + 1)
else
(if x5 = x2 then
some x4
else
rec29 x1 x2 k3 (x4 + 1) x1 1 (x7 + 1)))
else
(if x6 = 0 then
rec29 x1 x2 k3 x4 (x5 + 1) 0 (x7 + 1)
else
(if x2 ≤ x5 then
rec29 x1 x2 k3 x4 (x5 + 1) 0 (x7 + 1)
else
(rdK 600 (σ 25) x5 fun v11 =>
(if v11 = r4 then
rec29 x1 x2 k3 x4 (x5 + 1) 1 (x7 + 1)
else
rec29 x1 x2 k3 x4 (x5 + 1) 0 (x7 + 1))))))))
set_option maxHeartbeats 4000000 in
theorem b_fX4_wordKind_29B {E : Ev} {l : Launch} {p : Program} {e : Env} {s : State} {m : MethodId} {args : Array Value} {below : List Frame} {meth : Method} {c : Code} (σ : St) (C : CX true E RX4 cX4_wordKind 9 (some .int) p s m args meth c) {rr : Int32} (rec29 : Int32 → Int32 → Nat → Int32 → Int32 → Int32 → Int32 → Option Int32) (hr29 : ∀  (x1 : Int32) (x2 : Int32) (k3 : Nat) (x4 : Int32) (x5 : Int32) (x6 : Int32) (x7 : Int32), fK k3 → rec29 x1 x2 k3 x4 x5 x6 x7 = some rr → GW true l (rmD 5) E 9 p e s m args below meth c (MQ below (QI true E rr σ s.heap.size) args s 0 0 (aW true E s.heap.size)) σ 29 [(0, .ref (ea E 24)), (1, .int x1), (2, .int x2), (3, .ref (eK E k3)), (4, .int x4), (5, .int x5), (6, .int x6), (7, .int x7)] []) : ∀  (x1 : Int32) (x2 : Int32) (k3 : Nat) (x4 : Int32) (x5 : Int32) (x6 : Int32) (x7 : Int32), fK k3 → fX4_wordKind_29B σ rec29 x1 x2 k3 x4 x5 x6 x7 = some rr → GW true l (rmD 5) E 9 p e s m args below meth c (MQ below (QI true E rr σ s.heap.size) args s 0 0 (aW true E s.heap.size)) σ 29 [(0, .ref (ea E 24)), (1, .int x1), (2, .int x2), (3, .ref (eK E k3)), (4, .int x4), (5, .int x5), (6, .int x6), (7, .int x7)] [] := by
  intro x1 x2 k3 x4 x5 x6 x7 hk3 hf H locs ls hP hS hl
  obtain ⟨hx, hb, hr, hml, hown, hts, hlocks, hK, hX, hj⟩ := id C
  unfold fX4_wordKind_29B at hf
  refine lv_iload hx hb dX4_wordKind_29 (lv_at hl 7 rfl) ?_
  refine lv_aload_n hx hb dX4_wordKind_31 rfl (lv_at hl 3 rfl) ?_
  refine r_cTi (n := 0) (As := []) (rest := [.int x7]) C (c_fJ0_length_8abf5 hk3 hj σ H.size) (vk_recv hX.2.1 hk3 hS) gv_RX4_88 (by decide +kernel) (rmD_le (by decide) (by decide)) rfl rfl (Nat.le_of_ble_eq_true rfl) dX4_wordKind_32 hP hS hl.1 (fun H locs hP hS => ?_)
  refine lv_icmp_ge (tgt := 118) hx hb dX4_wordKind_35 (by decide) (fun c1 => ?_) (fun c1 => ?_)
  · replace hf := it_t c1 hf
    refine lv_iload hx hb dX4_wordKind_118 (lv_at hl 6 rfl) ?_
    refine lv_if_eq (tgt := 134) hx hb dX4_wordKind_120 (by decide) (fun c2 => ?_) (fun c2 => ?_)
    · replace hf := it_t c2 hf
      refine lv_iconst (v := 1) hx hb dX4_wordKind_134 (by decide) ?_
      cases hf
      exact r_iret C hP hS dX4_wordKind_135
    · replace hf := it_f c2 hf
      refine lv_iload hx hb dX4_wordKind_123 (lv_at hl 5 rfl) ?_
      refine lv_iload_n hx hb dX4_wordKind_125 rfl (lv_at hl 2 rfl) ?_
      refine lv_icmp_ne (tgt := 134) hx hb dX4_wordKind_126 (by decide) (fun c3 => ?_) (fun c3 => ?_)
      · replace hf := it_f c3 hf
        refine lv_iconst (v := 1) hx hb dX4_wordKind_134 (by decide) ?_
        cases hf
        exact r_iret C hP hS dX4_wordKind_135
      · replace hf := it_t c3 hf
        refine lv_iload hx hb dX4_wordKind_129 (lv_at hl 4 rfl) ?_
        refine lv_goto (tgt := 135) hx hb dX4_wordKind_131 (by decide) ?_
        cases hf
        exact r_iret C hP hS dX4_wordKind_135
  · replace hf := it_f c1 hf
    refine lv_aload_n hx hb dX4_wordKind_38 rfl (lv_at hl 3 rfl) ?_
    refine lv_iload hx hb dX4_wordKind_39 (lv_at hl 7 rfl) ?_
    obtain ⟨r4, hc5, hf⟩ := cq_e hf
    refine r_cTi (n := 1) (As := [.int x7]) (rest := []) C (c_fJ0_charAt_5068e hk3 hj σ H.size x7 hc5) (vk_recv hX.2.1 hk3 hS) gv_RX4_91 (by decide +kernel) (rmD_le (by decide) (by decide)) rfl rfl (Nat.le_of_ble_eq_true rfl) dX4_wordKind_41 hP hS hl.1 (fun H locs hP hS => ?_)
    refine lv_istore (lv' := [(8, .int r4), (0, .ref (ea E 24)), (1, .int x1), (2, .int x2), (3, .ref (eK E k3)), (4, .int x4), (5, .int x5), (6, .int x6), (7, .int x7)]) hx hb dX4_wordKind_44 hl (by decide) rfl (fun ls hl => ?_)
    refine lv_iload hx hb dX4_wordKind_46 (lv_at hl 0 rfl) ?_
    refine lv_bipush (v := 32) hx hb dX4_wordKind_48 (by decide) ?_
    refine lv_icmp_eq (tgt := 89) hx hb dX4_wordKind_50 (by decide) (fun c6 => ?_) (fun c6 => ?_)
    · replace hf := it_t c6 hf
      refine lv_iload hx hb dX4_wordKind_89 (lv_at hl 7 rfl) ?_
      refine lv_if_eq (tgt := 103) hx hb dX4_wordKind_91 (by decide) (fun c7 => ?_) (fun c7 => ?_)
      · replace hf := it_t c7 hf
        refine lv_iinc (v := (x4 + 1)) (lv' := [(4, .int (x4 + 1)), (8, .int r4), (0, .ref (ea E 24)), (1, .int x1), (2, .int x2), (3, .ref (eK E k3)), (5, .int x5), (6, .int x6), (7, .int x7)]) hx hb dX4_wordKind_103 hl (k := 5) rfl rfl (by decide) rfl (fun ls hl => ?_)
        refine lv_iload_n hx hb dX4_wordKind_106 rfl (lv_at hl 3 rfl) ?_
        refine lv_istore (lv' := [(5, .int x1), (4, .int (x4 + 1)), (8, .int r4), (0, .ref (ea E 24)), (1, .int x1), (2, .int x2), (3, .ref (eK E k3)), (6, .int x6), (7, .int x7)]) hx hb dX4_wordKind_107 hl (by decide) rfl (fun ls hl => ?_)
        refine lv_iconst (v := 1) hx hb dX4_wordKind_109 (by decide) ?_
        refine lv_istore (lv' := [(6, .int 1), (5, .int x1), (4, .int (x4 + 1)), (8, .int r4), (0, .ref (ea E 24)), (1, .int x1), (2, .int x2), (3, .ref (eK E k3)), (7, .int x7)]) hx hb dX4_wordKind_110 hl (by decide) rfl (fun ls hl => ?_)
        refine lv_iinc (v := (x7 + 1)) (lv' := [(7, .int (x7 + 1)), (6, .int 1), (5, .int x1), (4, .int (x4 + 1)), (8, .int r4), (0, .ref (ea E 24)), (1, .int x1), (2, .int x2), (3, .ref (eK E k3))]) hx hb dX4_wordKind_112 hl (k := 8) rfl rfl (by decide) rfl (fun ls hl => ?_)
        refine lv_goto (tgt := 29) hx hb dX4_wordKind_115 (by decide) ?_
        exact hr29 x1 x2 k3 (x4 + 1) x1 1 (x7 + 1) hk3 hf H locs ls hP hS (lv_sub hl [5, 6, 7, 8, 3, 2, 1, 0] rfl)
      · replace hf := it_f c7 hf
        refine lv_iload hx hb dX4_wordKind_94 (lv_at hl 6 rfl) ?_
        refine lv_iload_n hx hb dX4_wordKind_96 rfl (lv_at hl 3 rfl) ?_
        refine lv_icmp_ne (tgt := 103) hx hb dX4_wordKind_97 (by decide) (fun c8 => ?_) (fun c8 => ?_)
        · replace hf := it_f c8 hf
          refine lv_iinc (v := (x4 + 1)) (lv' := [(4, .int (x4 + 1)), (8, .int r4), (0, .ref (ea E 24)), (1, .int x1), (2, .int x2), (3, .ref (eK E k3)), (5, .int x5), (6, .int x6), (7, .int x7)]) hx hb dX4_wordKind_103 hl (k := 5) rfl rfl (by decide) rfl (fun ls hl => ?_)
          refine lv_iload_n hx hb dX4_wordKind_106 rfl (lv_at hl 3 rfl) ?_
          refine lv_istore (lv' := [(5, .int x1), (4, .int (x4 + 1)), (8, .int r4), (0, .ref (ea E 24)), (1, .int x1), (2, .int x2), (3, .ref (eK E k3)), (6, .int x6), (7, .int x7)]) hx hb dX4_wordKind_107 hl (by decide) rfl (fun ls hl => ?_)
          refine lv_iconst (v := 1) hx hb dX4_wordKind_109 (by decide) ?_
          refine lv_istore (lv' := [(6, .int 1), (5, .int x1), (4, .int (x4 + 1)), (8, .int r4), (0, .ref (ea E 24)), (1, .int x1), (2, .int x2), (3, .ref (eK E k3)), (7, .int x7)]) hx hb dX4_wordKind_110 hl (by decide) rfl (fun ls hl => ?_)
          refine lv_iinc (v := (x7 + 1)) (lv' := [(7, .int (x7 + 1)), (6, .int 1), (5, .int x1), (4, .int (x4 + 1)), (8, .int r4), (0, .ref (ea E 24)), (1, .int x1), (2, .int x2), (3, .ref (eK E k3))]) hx hb dX4_wordKind_112 hl (k := 8) rfl rfl (by decide) rfl (fun ls hl => ?_)
          refine lv_goto (tgt := 29) hx hb dX4_wordKind_115 (by decide) ?_
          exact hr29 x1 x2 k3 (x4 + 1) x1 1 (x7 + 1) hk3 hf H locs ls hP hS (lv_sub hl [5, 6, 7, 8, 3, 2, 1, 0] rfl)
        · replace hf := it_t c8 hf
          refine lv_iload hx hb dX4_wordKind_100 (lv_at hl 5 rfl) ?_
          cases hf
          exact r_iret C hP hS dX4_wordKind_102
    · replace hf := it_f c6 hf
      refine lv_iload hx hb dX4_wordKind_53 (lv_at hl 7 rfl) ?_
      refine lv_if_eq (tgt := 80) hx hb dX4_wordKind_55 (by decide) (fun c9 => ?_) (fun c9 => ?_)
      · replace hf := it_t c9 hf
        refine lv_iconst (v := 0) hx hb dX4_wordKind_80 (by decide) ?_
        refine lv_istore (lv' := [(6, .int 0), (8, .int r4), (0, .ref (ea E 24)), (1, .int x1), (2, .int x2), (3, .ref (eK E k3)), (4, .int x4), (5, .int x5), (7, .int x7)]) hx hb dX4_wordKind_81 hl (by decide) rfl (fun ls hl => ?_)
        refine lv_iinc (v := (x5 + 1)) (lv' := [(5, .int (x5 + 1)), (6, .int 0), (8, .int r4), (0, .ref (ea E 24)), (1, .int x1), (2, .int x2), (3, .ref (eK E k3)), (4, .int x4), (7, .int x7)]) hx hb dX4_wordKind_83 hl (k := 7) rfl rfl (by decide) rfl (fun ls hl => ?_)
        refine lv_goto (tgt := 112) hx hb dX4_wordKind_86 (by decide) ?_
        refine lv_iinc (v := (x7 + 1)) (lv' := [(7, .int (x7 + 1)), (5, .int (x5 + 1)), (6, .int 0), (8, .int r4), (0, .ref (ea E 24)), (1, .int x1), (2, .int x2), (3, .ref (eK E k3)), (4, .int x4)]) hx hb dX4_wordKind_112 hl (k := 8) rfl rfl (by decide) rfl (fun ls hl => ?_)
        refine lv_goto (tgt := 29) hx hb dX4_wordKind_115 (by decide) ?_
        exact hr29 x1 x2 k3 x4 (x5 + 1) 0 (x7 + 1) hk3 hf H locs ls hP hS (lv_sub hl [4, 5, 6, 7, 8, 1, 2, 0] rfl)
      · replace hf := it_f c9 hf
        refine lv_iload hx hb dX4_wordKind_58 (lv_at hl 6 rfl) ?_
        refine lv_iload_n hx hb dX4_wordKind_60 rfl (lv_at hl 3 rfl) ?_
        refine lv_icmp_ge (tgt := 80) hx hb dX4_wordKind_61 (by decide) (fun c10 => ?_) (fun c10 => ?_)
        · replace hf := it_t c10 hf
          refine lv_iconst (v := 0) hx hb dX4_wordKind_80 (by decide) ?_
          refine lv_istore (lv' := [(6, .int 0), (8, .int r4), (0, .ref (ea E 24)), (1, .int x1), (2, .int x2), (3, .ref (eK E k3)), (4, .int x4), (5, .int x5), (7, .int x7)]) hx hb dX4_wordKind_81 hl (by decide) rfl (fun ls hl => ?_)
          refine lv_iinc (v := (x5 + 1)) (lv' := [(5, .int (x5 + 1)), (6, .int 0), (8, .int r4), (0, .ref (ea E 24)), (1, .int x1), (2, .int x2), (3, .ref (eK E k3)), (4, .int x4), (7, .int x7)]) hx hb dX4_wordKind_83 hl (k := 7) rfl rfl (by decide) rfl (fun ls hl => ?_)
          refine lv_goto (tgt := 112) hx hb dX4_wordKind_86 (by decide) ?_
          refine lv_iinc (v := (x7 + 1)) (lv' := [(7, .int (x7 + 1)), (5, .int (x5 + 1)), (6, .int 0), (8, .int r4), (0, .ref (ea E 24)), (1, .int x1), (2, .int x2), (3, .ref (eK E k3)), (4, .int x4)]) hx hb dX4_wordKind_112 hl (k := 8) rfl rfl (by decide) rfl (fun ls hl => ?_)
          refine lv_goto (tgt := 29) hx hb dX4_wordKind_115 (by decide) ?_
          exact hr29 x1 x2 k3 x4 (x5 + 1) 0 (x7 + 1) hk3 hf H locs ls hP hS (lv_sub hl [4, 5, 6, 7, 8, 1, 2, 0] rfl)
        · replace hf := it_f c10 hf
          refine lv_aload_n hx hb dX4_wordKind_64 rfl (lv_at hl 1 rfl) ?_
          refine r_get (k := 0) (v := .ref (ea E 25)) C hP oC_24 rfl iX4 (by decide) wm_t162 rfl rfl dX4_wordKind_65 ?_
          refine lv_iload hx hb dX4_wordKind_68 (lv_at hl 6 rfl) ?_
          have h12 := (rdK_e hf).1
          refine r_ald C hP aC_25 h12 dX4_wordKind_70 ?_
          refine lv_topi (fun v11 ev11 => ?_)
          replace hf := rdK_n ev11 hf
          refine lv_iload hx hb dX4_wordKind_71 (lv_at hl 0 rfl) ?_
          refine lv_icmp_ne (tgt := 80) hx hb dX4_wordKind_73 (by decide) (fun c13 => ?_) (fun c13 => ?_)
          · replace hf := it_f c13 hf
            refine lv_iconst (v := 0) hx hb dX4_wordKind_80 (by decide) ?_
            refine lv_istore (lv' := [(6, .int 0), (8, .int r4), (0, .ref (ea E 24)), (1, .int x1), (2, .int x2), (3, .ref (eK E k3)), (4, .int x4), (5, .int x5), (7, .int x7)]) hx hb dX4_wordKind_81 hl (by decide) rfl (fun ls hl => ?_)
            refine lv_iinc (v := (x5 + 1)) (lv' := [(5, .int (x5 + 1)), (6, .int 0), (8, .int r4), (0, .ref (ea E 24)), (1, .int x1), (2, .int x2), (3, .ref (eK E k3)), (4, .int x4), (7, .int x7)]) hx hb dX4_wordKind_83 hl (k := 7) rfl rfl (by decide) rfl (fun ls hl => ?_)
            refine lv_goto (tgt := 112) hx hb dX4_wordKind_86 (by decide) ?_
            refine lv_iinc (v := (x7 + 1)) (lv' := [(7, .int (x7 + 1)), (5, .int (x5 + 1)), (6, .int 0), (8, .int r4), (0, .ref (ea E 24)), (1, .int x1), (2, .int x2), (3, .ref (eK E k3)), (4, .int x4)]) hx hb dX4_wordKind_112 hl (k := 8) rfl rfl (by decide) rfl (fun ls hl => ?_)
            refine lv_goto (tgt := 29) hx hb dX4_wordKind_115 (by decide) ?_
            exact hr29 x1 x2 k3 x4 (x5 + 1) 0 (x7 + 1) hk3 hf H locs ls hP hS (lv_sub hl [4, 5, 6, 7, 8, 1, 2, 0] rfl)
          · replace hf := it_t c13 hf
            refine lv_iconst (v := 1) hx hb dX4_wordKind_76 (by decide) ?_
            refine lv_goto (tgt := 81) hx hb dX4_wordKind_77 (by decide) ?_
            refine lv_istore (lv' := [(6, .int 1), (8, .int r4), (0, .ref (ea E 24)), (1, .int x1), (2, .int x2), (3, .ref (eK E k3)), (4, .int x4), (5, .int x5), (7, .int x7)]) hx hb dX4_wordKind_81 hl (by decide) rfl (fun ls hl => ?_)
            refine lv_iinc (v := (x5 + 1)) (lv' := [(5, .int (x5 + 1)), (6, .int 1), (8, .int r4), (0, .ref (ea E 24)), (1, .int x1), (2, .int x2), (3, .ref (eK E k3)), (4, .int x4), (7, .int x7)]) hx hb dX4_wordKind_83 hl (k := 7) rfl rfl (by decide) rfl (fun ls hl => ?_)
            refine lv_goto (tgt := 112) hx hb dX4_wordKind_86 (by decide) ?_
            refine lv_iinc (v := (x7 + 1)) (lv' := [(7, .int (x7 + 1)), (5, .int (x5 + 1)), (6, .int 1), (8, .int r4), (0, .ref (ea E 24)), (1, .int x1), (2, .int x2), (3, .ref (eK E k3)), (4, .int x4)]) hx hb dX4_wordKind_112 hl (k := 8) rfl rfl (by decide) rfl (fun ls hl => ?_)
            refine lv_goto (tgt := 29) hx hb dX4_wordKind_115 (by decide) ?_
            exact hr29 x1 x2 k3 x4 (x5 + 1) 1 (x7 + 1) hk3 hf H locs ls hP hS (lv_sub hl [4, 5, 6, 7, 8, 1, 2, 0] rfl)
def fX4_wordKind_29 (σ : St) : Nat → Int32 → Int32 → Nat → Int32 → Int32 → Int32 → Int32 → Option Int32
  | 0 => fun _ _ _ _ _ _ _ => none
  | n + 1 => fun x1 x2 k3 x4 x5 x6 x7 => fX4_wordKind_29B σ (fX4_wordKind_29 σ n) x1 x2 k3 x4 x5 x6 x7
theorem b_fX4_wordKind_29 {E : Ev} {l : Launch} {p : Program} {e : Env} {s : State} {m : MethodId} {args : Array Value} {below : List Frame} {meth : Method} {c : Code} (σ : St) (C : CX true E RX4 cX4_wordKind 9 (some .int) p s m args meth c) {rr : Int32} : ∀ (n : Nat) (x1 : Int32) (x2 : Int32) (k3 : Nat) (x4 : Int32) (x5 : Int32) (x6 : Int32) (x7 : Int32), fK k3 → fX4_wordKind_29 σ n x1 x2 k3 x4 x5 x6 x7 = some rr → GW true l (rmD 5) E 9 p e s m args below meth c (MQ below (QI true E rr σ s.heap.size) args s 0 0 (aW true E s.heap.size)) σ 29 [(0, .ref (ea E 24)), (1, .int x1), (2, .int x2), (3, .ref (eK E k3)), (4, .int x4), (5, .int x5), (6, .int x6), (7, .int x7)] [] := by
  intro n
  induction n with
  | zero => intro x1 x2 k3 x4 x5 x6 x7 hk3 hf; have hf : (none : Option _) = some _ := hf; cases hf
  | succ n ih => intro x1 x2 k3 x4 x5 x6 x7 hk3 hf; exact b_fX4_wordKind_29B σ C (fX4_wordKind_29 σ n) ih x1 x2 k3 x4 x5 x6 x7 hk3 hf
def fX4_wordKind (σ : St) (a0 : Int32) (a1 : Int32) : Option Int32 :=
(if (σ 24 6) = 0 then
fX4_wordKind_29 σ FU a0 a1 1 256 a0 1 0
else
fX4_wordKind_29 σ FU a0 a1 0 256 a0 1 0)
set_option maxHeartbeats 4000000 in
theorem c_fX4_wordKind {E : Ev} {l : Launch} (hj : jW true E) (σ : St) (sz : Nat) (a0 : Int32) (a1 : Int32) {rr : Int32} (hf : fX4_wordKind σ a0 a1 = some rr) : Met l yX4_wordKind (Cond.code yX4_wordKind cX4_wordKind 9 (some .int) :: gT) (rmD 5) (va_Pc [.ref (ea E 24), .int a0, .int a1] (preW true E σ sz)) (QI true E rr σ sz) 0 0 (aW true E sz) := by
  refine r_entry (QI true E rr σ) hj (by decide) [.ref (ea E 24), .int a0, .int a1] (Nat.le_of_ble_eq_true rfl) (fun p e s m args below meth c C => ?_)
  intro H locs ls hP hS hl
  have hl : lv_has ls 9 [(0, .ref (ea E 24)), (1, .int a0), (2, .int a1)] := hl
  obtain ⟨hx, hb, hr, hml, hown, hts, hlocks, hK, hX, hj⟩ := id C
  unfold fX4_wordKind at hf
  refine lv_aload_n hx hb dX4_wordKind_0 rfl (lv_at hl 0 rfl) ?_
  refine r_get (k := 6) (v := .int (σ 24 6)) C hP oC_24 rfl iX4 (by decide) wm_t168 rfl rfl dX4_wordKind_1 ?_
  refine lv_if_eq (tgt := 12) hx hb dX4_wordKind_4 (by decide) (fun c1 => ?_) (fun c1 => ?_)
  · replace hf := it_t c1 hf
    refine va_ldcS hx hb hown (hX.2.2.1 1 (by decide)) dX4_wordKind_12 ?_
    refine lv_astore_n (lv' := [(3, .ref (eK E 1)), (0, .ref (ea E 24)), (1, .int a0), (2, .int a1)]) hx hb dX4_wordKind_14 rfl hl (by decide) rfl (fun ls hl => ?_)
    refine lv_sipush (v := 256) hx hb dX4_wordKind_15 (by decide) ?_
    refine lv_istore (lv' := [(4, .int 256), (3, .ref (eK E 1)), (0, .ref (ea E 24)), (1, .int a0), (2, .int a1)]) hx hb dX4_wordKind_18 hl (by decide) rfl (fun ls hl => ?_)
    refine lv_iload_n hx hb dX4_wordKind_20 rfl (lv_at hl 3 rfl) ?_
    refine lv_istore (lv' := [(5, .int a0), (4, .int 256), (3, .ref (eK E 1)), (0, .ref (ea E 24)), (1, .int a0), (2, .int a1)]) hx hb dX4_wordKind_21 hl (by decide) rfl (fun ls hl => ?_)
    refine lv_iconst (v := 1) hx hb dX4_wordKind_23 (by decide) ?_
    refine lv_istore (lv' := [(6, .int 1), (5, .int a0), (4, .int 256), (3, .ref (eK E 1)), (0, .ref (ea E 24)), (1, .int a0), (2, .int a1)]) hx hb dX4_wordKind_24 hl (by decide) rfl (fun ls hl => ?_)
    refine lv_iconst (v := 0) hx hb dX4_wordKind_26 (by decide) ?_
    refine lv_istore (lv' := [(7, .int 0), (6, .int 1), (5, .int a0), (4, .int 256), (3, .ref (eK E 1)), (0, .ref (ea E 24)), (1, .int a0), (2, .int a1)]) hx hb dX4_wordKind_27 hl (by decide) rfl (fun ls hl => ?_)
    exact b_fX4_wordKind_29 σ C FU a0 a1 1 256 a0 1 0 fK_1 hf H locs ls hP hS (lv_sub hl [5, 6, 7, 4, 3, 2, 1, 0] rfl)
  · replace hf := it_f c1 hf
    refine va_ldcS hx hb hown (hX.2.2.1 0 (by decide)) dX4_wordKind_7 ?_
    refine lv_goto (tgt := 14) hx hb dX4_wordKind_9 (by decide) ?_
    refine lv_astore_n (lv' := [(3, .ref (eK E 0)), (0, .ref (ea E 24)), (1, .int a0), (2, .int a1)]) hx hb dX4_wordKind_14 rfl hl (by decide) rfl (fun ls hl => ?_)
    refine lv_sipush (v := 256) hx hb dX4_wordKind_15 (by decide) ?_
    refine lv_istore (lv' := [(4, .int 256), (3, .ref (eK E 0)), (0, .ref (ea E 24)), (1, .int a0), (2, .int a1)]) hx hb dX4_wordKind_18 hl (by decide) rfl (fun ls hl => ?_)
    refine lv_iload_n hx hb dX4_wordKind_20 rfl (lv_at hl 3 rfl) ?_
    refine lv_istore (lv' := [(5, .int a0), (4, .int 256), (3, .ref (eK E 0)), (0, .ref (ea E 24)), (1, .int a0), (2, .int a1)]) hx hb dX4_wordKind_21 hl (by decide) rfl (fun ls hl => ?_)
    refine lv_iconst (v := 1) hx hb dX4_wordKind_23 (by decide) ?_
    refine lv_istore (lv' := [(6, .int 1), (5, .int a0), (4, .int 256), (3, .ref (eK E 0)), (0, .ref (ea E 24)), (1, .int a0), (2, .int a1)]) hx hb dX4_wordKind_24 hl (by decide) rfl (fun ls hl => ?_)
    refine lv_iconst (v := 0) hx hb dX4_wordKind_26 (by decide) ?_
    refine lv_istore (lv' := [(7, .int 0), (6, .int 1), (5, .int a0), (4, .int 256), (3, .ref (eK E 0)), (0, .ref (ea E 24)), (1, .int a0), (2, .int a1)]) hx hb dX4_wordKind_27 hl (by decide) rfl (fun ls hl => ?_)
    exact b_fX4_wordKind_29 σ C FU a0 a1 0 256 a0 1 0 fK_0 hf H locs ls hP hS (lv_sub hl [5, 6, 7, 4, 3, 2, 1, 0] rfl)
def fX4_advance (σ : St) : Option St :=
(if (σ 24 5) = 0 then
some σ
else
(if 600 ≤ (σ 24 4) then
some σ
else
(nmS (st_put σ 24 4 ((σ 24 4) + 1)) fun σ3 =>
(rdK 601 (σ3 26) (σ3 24 4) fun v4 =>
(nmS (st_put σ3 24 5 v4) fun σ6 =>
some σ6)))))
set_option maxHeartbeats 4000000 in
theorem c_fX4_advance {E : Ev} {l : Launch} (hj : jW true E) (σ : St) (sz : Nat) {sr : St} (hf : fX4_advance σ = some sr) : Met l yX4_advance (Cond.code yX4_advance cX4_advance 1 none :: gT) (rmD 1) (va_Pc [.ref (ea E 24)] (preW true E σ sz)) (QV true E sr sz) 0 0 (aW true E sz) := by
  refine r_entry (QV true E sr) hj (by decide) [.ref (ea E 24)] (Nat.le_of_ble_eq_true rfl) (fun p e s m args below meth c C => ?_)
  intro H locs ls hP hS hl
  have hl : lv_has ls 1 [(0, .ref (ea E 24))] := hl
  obtain ⟨hx, hb, hr, hml, hown, hts, hlocks, hK, hX, hj⟩ := id C
  unfold fX4_advance at hf
  refine lv_aload_n hx hb dX4_advance_0 rfl (lv_at hl 0 rfl) ?_
  refine r_get (k := 5) (v := .int (σ 24 5)) C hP oC_24 rfl iX4 (by decide) wm_t167 rfl rfl dX4_advance_1 ?_
  refine lv_if_eq (tgt := 40) hx hb dX4_advance_4 (by decide) (fun c1 => ?_) (fun c1 => ?_)
  · replace hf := it_t c1 hf
    cases hf
    exact r_vret C hP hS dX4_advance_40
  · replace hf := it_f c1 hf
    refine lv_aload_n hx hb dX4_advance_7 rfl (lv_at hl 0 rfl) ?_
    refine r_get (k := 4) (v := .int (σ 24 4)) C hP oC_24 rfl iX4 (by decide) wm_t166 rfl rfl dX4_advance_8 ?_
    refine lv_sipush (v := 600) hx hb dX4_advance_11 (by decide) ?_
    refine lv_icmp_ge (tgt := 40) hx hb dX4_advance_14 (by decide) (fun c2 => ?_) (fun c2 => ?_)
    · replace hf := it_t c2 hf
      cases hf
      exact r_vret C hP hS dX4_advance_40
    · replace hf := it_f c2 hf
      refine lv_aload_n hx hb dX4_advance_17 rfl (lv_at hl 0 rfl) ?_
      refine lv_dup hx hb dX4_advance_18 rfl ?_
      refine r_get (k := 4) (v := .int (σ 24 4)) C hP oC_24 rfl iX4 (by decide) wm_t166 rfl rfl dX4_advance_19 ?_
      refine lv_iconst (v := 1) hx hb dX4_advance_22 (by decide) ?_
      refine lv_iadd hx hb dX4_advance_23 ?_
      refine r_put (k := 4) (x := ((σ 24 4) + 1)) C hP hS tyX4 tyX4_ok nmX4 oC_24 rfl iX4 (by decide) wm_t166 rfl rfl sC_24_4 rfl rfl (Nat.le_of_ble_eq_true rfl) dX4_advance_24 (fun H locs hP hS => ?_)
      obtain ⟨σ3, eσ3, hf⟩ := nmS_e hf
      rw [← eσ3] at hP
      refine lv_aload_n hx hb dX4_advance_27 rfl (lv_at hl 0 rfl) ?_
      refine lv_aload_n hx hb dX4_advance_28 rfl (lv_at hl 0 rfl) ?_
      refine r_get (k := 2) (v := .ref (ea E 26)) C hP oC_24 rfl iX4 (by decide) wm_t164 rfl rfl dX4_advance_29 ?_
      refine lv_aload_n hx hb dX4_advance_32 rfl (lv_at hl 0 rfl) ?_
      refine r_get (k := 4) (v := .int (σ3 24 4)) C hP oC_24 rfl iX4 (by decide) wm_t166 rfl rfl dX4_advance_33 ?_
      have h5 := (rdK_e hf).1
      refine r_ald C hP aC_26 h5 dX4_advance_36 ?_
      refine lv_topi (fun v4 ev4 => ?_)
      replace hf := rdK_n ev4 hf
      refine r_put (k := 5) (x := v4) C hP hS tyX4 tyX4_ok nmX4 oC_24 rfl iX4 (by decide) wm_t167 rfl rfl sC_24_5 rfl rfl (Nat.le_of_ble_eq_true rfl) dX4_advance_37 (fun H locs hP hS => ?_)
      obtain ⟨σ6, eσ6, hf⟩ := nmS_e hf
      rw [← eσ6] at hP
      cases hf
      exact r_vret C hP hS dX4_advance_40
def fX4_take (σ : St) (a0 : Int32) : Option (Int32 × St) :=
(if (σ 24 5) = a0 then
(cv (fX4_advance σ) fun σ3 =>
some (1, σ3))
else
some (0, σ))
set_option maxHeartbeats 4000000 in
theorem c_fX4_take {E : Ev} {l : Launch} (hj : jW true E) (σ : St) (sz : Nat) (a0 : Int32) {rr : Int32} {sr : St} (hf : fX4_take σ a0 = some (rr, sr)) : Met l yX4_take (Cond.code yX4_take cX4_take 2 (some .boolean) :: gT) (rmD 2) (va_Pc [.ref (ea E 24), .int a0] (preW true E σ sz)) (QI true E rr sr sz) 0 0 (aW true E sz) := by
  refine r_entry (QI true E rr sr) hj (by decide) [.ref (ea E 24), .int a0] (Nat.le_of_ble_eq_true rfl) (fun p e s m args below meth c C => ?_)
  intro H locs ls hP hS hl
  have hl : lv_has ls 2 [(0, .ref (ea E 24)), (1, .int a0)] := hl
  obtain ⟨hx, hb, hr, hml, hown, hts, hlocks, hK, hX, hj⟩ := id C
  unfold fX4_take at hf
  refine lv_aload_n hx hb dX4_take_0 rfl (lv_at hl 0 rfl) ?_
  refine r_get (k := 5) (v := .int (σ 24 5)) C hP oC_24 rfl iX4 (by decide) wm_t167 rfl rfl dX4_take_1 ?_
  refine lv_iload_n hx hb dX4_take_4 rfl (lv_at hl 1 rfl) ?_
  refine lv_icmp_eq (tgt := 10) hx hb dX4_take_5 (by decide) (fun c1 => ?_) (fun c1 => ?_)
  · replace hf := it_t c1 hf
    refine lv_aload_n hx hb dX4_take_10 rfl (lv_at hl 0 rfl) ?_
    obtain ⟨σ3, hc2, hf⟩ := cv_e hf
    refine r_cVv (n := 0) (As := []) (rest := []) C (c_fX4_advance hj σ H.size hc2) oC_24 rfl gv_RX4_95 (by decide +kernel) (rmD_le (by decide) (by decide)) rfl rfl (Nat.le_of_ble_eq_true rfl) dX4_take_11 hP hS hl.1 (fun H locs hP hS => ?_)
    refine lv_iconst (v := 1) hx hb dX4_take_14 (by decide) ?_
    cases hf
    exact r_zret C rfl hP hS dX4_take_15
  · replace hf := it_f c1 hf
    refine lv_iconst (v := 0) hx hb dX4_take_8 (by decide) ?_
    cases hf
    exact r_zret C rfl hP hS dX4_take_9
def fX4_numberHere (σ : St) : Int32 :=
(if (σ 24 5) < 1000 then
(-1)
else
((σ 24 5) - 1000))
set_option maxHeartbeats 4000000 in
theorem c_fX4_numberHere {E : Ev} {l : Launch} (hj : jW true E) (σ : St) (sz : Nat) : Met l yX4_numberHere (Cond.code yX4_numberHere cX4_numberHere 1 (some .int) :: gT) (rmD 1) (va_Pc [.ref (ea E 24)] (preW true E σ sz)) (QI true E (fX4_numberHere σ) σ sz) 0 0 (aW true E sz) := by
  refine r_entry (QI true E (fX4_numberHere σ) σ) hj (by decide) [.ref (ea E 24)] (Nat.le_of_ble_eq_true rfl) (fun p e s m args below meth c C => ?_)
  intro H locs ls hP hS hl
  have hl : lv_has ls 1 [(0, .ref (ea E 24))] := hl
  obtain ⟨hx, hb, hr, hml, hown, hts, hlocks, hK, hX, hj⟩ := id C
  generalize hf : fX4_numberHere σ = rr
  unfold fX4_numberHere at hf
  refine lv_aload_n hx hb dX4_numberHere_0 rfl (lv_at hl 0 rfl) ?_
  refine r_get (k := 5) (v := .int (σ 24 5)) C hP oC_24 rfl iX4 (by decide) wm_t167 rfl rfl dX4_numberHere_1 ?_
  refine lv_sipush (v := 1000) hx hb dX4_numberHere_4 (by decide) ?_
  refine lv_icmp_lt (tgt := 21) hx hb dX4_numberHere_7 (by decide) (fun c1 => ?_) (fun c1 => ?_)
  · replace hf := it_t c1 hf
    refine lv_iconst (v := (-1)) hx hb dX4_numberHere_21 (by decide) ?_
    subst hf
    exact r_iret C hP hS dX4_numberHere_22
  · replace hf := it_f c1 hf
    refine lv_aload_n hx hb dX4_numberHere_10 rfl (lv_at hl 0 rfl) ?_
    refine r_get (k := 5) (v := .int (σ 24 5)) C hP oC_24 rfl iX4 (by decide) wm_t167 rfl rfl dX4_numberHere_11 ?_
    refine lv_sipush (v := 1000) hx hb dX4_numberHere_14 (by decide) ?_
    refine lv_isub hx hb dX4_numberHere_17 ?_
    refine lv_goto (tgt := 22) hx hb dX4_numberHere_18 (by decide) ?_
    subst hf
    exact r_iret C hP hS dX4_numberHere_22
def fX4_fail_29 (σ : St) (y0 : Int32) : Option (Int32 × St) :=
(nmS (st_put σ 24 9 y0) fun σ1 =>
some (0, σ1))
set_option maxHeartbeats 4000000 in
theorem b_fX4_fail_29 {E : Ev} {l : Launch} {p : Program} {e : Env} {s : State} {m : MethodId} {args : Array Value} {below : List Frame} {meth : Method} {c : Code} (C : CX true E RX4 cX4_fail 2 (some .boolean) p s m args meth c) {rr : Int32} {sr : St} : ∀ (σ : St) (y0 : Int32), fX4_fail_29 σ y0 = some (rr, sr) → GW true l (rmD 1) E 2 p e s m args below meth c (MQ below (QI true E rr sr s.heap.size) args s 0 0 (aW true E s.heap.size)) σ 29 [] [.int y0, .ref (ea E 24)] := by
  intro σ y0 hf H locs ls hP hS hl
  obtain ⟨hx, hb, hr, hml, hown, hts, hlocks, hK, hX, hj⟩ := id C
  unfold fX4_fail_29 at hf
  refine r_put (k := 9) (x := y0) C hP hS tyX4 tyX4_ok nmX4 oC_24 rfl iX4 (by decide) wm_t172 rfl rfl sC_24_9 rfl rfl (Nat.le_of_ble_eq_true rfl) dX4_fail_29 (fun H locs hP hS => ?_)
  obtain ⟨σ1, eσ1, hf⟩ := nmS_e hf
  rw [← eσ1] at hP
  refine lv_iconst (v := 0) hx hb dX4_fail_32 (by decide) ?_
  cases hf
  exact r_zret C rfl hP hS dX4_fail_33
def fX4_fail (σ : St) (a0 : Int32) : Option (Int32 × St) :=
(nmS (st_put σ 24 8 a0) fun σ1 =>
(if 600 < (σ1 24 4) then
fX4_fail_29 σ1 (-1)
else
(rdK 601 (σ1 27) (σ1 24 4) fun v3 =>
fX4_fail_29 σ1 v3)))
set_option maxHeartbeats 4000000 in
theorem c_fX4_fail {E : Ev} {l : Launch} (hj : jW true E) (σ : St) (sz : Nat) (a0 : Int32) {rr : Int32} {sr : St} (hf : fX4_fail σ a0 = some (rr, sr)) : Met l yX4_fail (Cond.code yX4_fail cX4_fail 2 (some .boolean) :: gT) (rmD 1) (va_Pc [.ref (ea E 24), .int a0] (preW true E σ sz)) (QI true E rr sr sz) 0 0 (aW true E sz) := by
  refine r_entry (QI true E rr sr) hj (by decide) [.ref (ea E 24), .int a0] (Nat.le_of_ble_eq_true rfl) (fun p e s m args below meth c C => ?_)
  intro H locs ls hP hS hl
  have hl : lv_has ls 2 [(0, .ref (ea E 24)), (1, .int a0)] := hl
  obtain ⟨hx, hb, hr, hml, hown, hts, hlocks, hK, hX, hj⟩ := id C
  unfold fX4_fail at hf
  refine lv_aload_n hx hb dX4_fail_0 rfl (lv_at hl 0 rfl) ?_
  refine lv_iload_n hx hb dX4_fail_1 rfl (lv_at hl 1 rfl) ?_
  refine r_put (k := 8) (x := a0) C hP hS tyX4 tyX4_ok nmX4 oC_24 rfl iX4 (by decide) wm_t170 rfl rfl sC_24_8 rfl rfl (Nat.le_of_ble_eq_true rfl) dX4_fail_2 (fun H locs hP hS => ?_)
  obtain ⟨σ1, eσ1, hf⟩ := nmS_e hf
  rw [← eσ1] at hP
  refine lv_aload_n hx hb dX4_fail_5 rfl (lv_at hl 0 rfl) ?_
  refine lv_aload_n hx hb dX4_fail_6 rfl (lv_at hl 0 rfl) ?_
  refine r_get (k := 4) (v := .int (σ1 24 4)) C hP oC_24 rfl iX4 (by decide) wm_t166 rfl rfl dX4_fail_7 ?_
  refine lv_sipush (v := 600) hx hb dX4_fail_10 (by decide) ?_
  refine lv_icmp_gt (tgt := 28) hx hb dX4_fail_13 (by decide) (fun c2 => ?_) (fun c2 => ?_)
  · replace hf := it_t c2 hf
    refine lv_iconst (v := (-1)) hx hb dX4_fail_28 (by decide) ?_
    exact b_fX4_fail_29 C σ1 (-1) hf H locs ls hP hS (lv_sub hl [] rfl)
  · replace hf := it_f c2 hf
    refine lv_aload_n hx hb dX4_fail_16 rfl (lv_at hl 0 rfl) ?_
    refine r_get (k := 3) (v := .ref (ea E 27)) C hP oC_24 rfl iX4 (by decide) wm_t165 rfl rfl dX4_fail_17 ?_
    refine lv_aload_n hx hb dX4_fail_20 rfl (lv_at hl 0 rfl) ?_
    refine r_get (k := 4) (v := .int (σ1 24 4)) C hP oC_24 rfl iX4 (by decide) wm_t166 rfl rfl dX4_fail_21 ?_
    have h4 := (rdK_e hf).1
    refine r_ald C hP aC_27 h4 dX4_fail_24 ?_
    refine lv_topi (fun v3 ev3 => ?_)
    replace hf := rdK_n ev3 hf
    refine lv_goto (tgt := 29) hx hb dX4_fail_25 (by decide) ?_
    exact b_fX4_fail_29 C σ1 v3 hf H locs ls hP hS (lv_sub hl [] rfl)
def fX4_headKinds (σ : St) : Int32 :=
(if (σ 24 6) = 0 then
3
else
4)
set_option maxHeartbeats 4000000 in
theorem c_fX4_headKinds {E : Ev} {l : Launch} (hj : jW true E) (σ : St) (sz : Nat) : Met l yX4_headKinds (Cond.code yX4_headKinds cX4_headKinds 1 (some .int) :: gT) (rmD 1) (va_Pc [.ref (ea E 24)] (preW true E σ sz)) (QI true E (fX4_headKinds σ) σ sz) 0 0 (aW true E sz) := by
  refine r_entry (QI true E (fX4_headKinds σ) σ) hj (by decide) [.ref (ea E 24)] (Nat.le_of_ble_eq_true rfl) (fun p e s m args below meth c C => ?_)
  intro H locs ls hP hS hl
  have hl : lv_has ls 1 [(0, .ref (ea E 24))] := hl
  obtain ⟨hx, hb, hr, hml, hown, hts, hlocks, hK, hX, hj⟩ := id C
  generalize hf : fX4_headKinds σ = rr
  unfold fX4_headKinds at hf
  refine lv_aload_n hx hb dX4_headKinds_0 rfl (lv_at hl 0 rfl) ?_
  refine r_get (k := 6) (v := .int (σ 24 6)) C hP oC_24 rfl iX4 (by decide) wm_t168 rfl rfl dX4_headKinds_1 ?_
  refine lv_if_eq (tgt := 11) hx hb dX4_headKinds_4 (by decide) (fun c1 => ?_) (fun c1 => ?_)
  · replace hf := it_t c1 hf
    refine lv_iconst (v := 3) hx hb dX4_headKinds_11 (by decide) ?_
    subst hf
    exact r_iret C hP hS dX4_headKinds_12
  · replace hf := it_f c1 hf
    refine lv_iconst (v := 4) hx hb dX4_headKinds_7 (by decide) ?_
    refine lv_goto (tgt := 12) hx hb dX4_headKinds_8 (by decide) ?_
    subst hf
    exact r_iret C hP hS dX4_headKinds_12
def fX5_heft (b : Nat) (σ : St) (a0 : Int32) : Option Int32 :=
(rdK (stN (b + 2)) (σ ((b + 2) + 1)) a0 fun v1 =>
(rdK (stN (b + 2)) (σ ((b + 2) + 2)) a0 fun v3 =>
some ((10 * v1) + v3)))
set_option maxHeartbeats 4000000 in
theorem c_fX5_heft {E : Ev} {l : Launch} {b : Nat} (hfb : fV b) (hj : jW true E) (σ : St) (sz : Nat) (a0 : Int32) {rr : Int32} (hf : fX5_heft b σ a0 = some rr) : Met l yX5_heft (Cond.code yX5_heft cX5_heft 2 (some .int) :: gT) (rmD 1) (va_Pc [.ref (ea E b), .int a0] (preW true E σ sz)) (QI true E rr σ sz) 0 0 (aW true E sz) := by
  refine r_entry (QI true E rr σ) hj (by decide) [.ref (ea E b), .int a0] (Nat.le_of_ble_eq_true rfl) (fun p e s m args below meth c C => ?_)
  intro H locs ls hP hS hl
  have hl : lv_has ls 2 [(0, .ref (ea E b)), (1, .int a0)] := hl
  obtain ⟨hx, hb, hr, hml, hown, hts, hlocks, hK, hX, hj⟩ := id C
  unfold fX5_heft at hf
  refine lv_bipush (v := 10) hx hb dX5_heft_0 (by decide) ?_
  refine lv_aload_n hx hb dX5_heft_2 rfl (lv_at hl 0 rfl) ?_
  refine r_get (k := 0) (v := .ref (ea E (b + 2))) C hP (oV hfb) rfl iX5 (by decide) wm_t94 rfl rfl dX5_heft_3 ?_
  refine r_get (k := 3) (v := .ref (ea E ((b + 2) + 1))) C hP (oS (fV_S hfb)) rfl iX8 (by decide) wm_t58 rfl rfl dX5_heft_6 ?_
  refine lv_iload_n hx hb dX5_heft_9 rfl (lv_at hl 1 rfl) ?_
  have h2 := (rdK_e hf).1
  refine r_ald C hP (aS_1 (fV_S hfb)) h2 dX5_heft_10 ?_
  refine lv_topi (fun v1 ev1 => ?_)
  replace hf := rdK_n ev1 hf
  refine lv_imul hx hb dX5_heft_11 ?_
  refine lv_aload_n hx hb dX5_heft_12 rfl (lv_at hl 0 rfl) ?_
  refine r_get (k := 0) (v := .ref (ea E (b + 2))) C hP (oV hfb) rfl iX5 (by decide) wm_t94 rfl rfl dX5_heft_13 ?_
  refine r_get (k := 4) (v := .ref (ea E ((b + 2) + 2))) C hP (oS (fV_S hfb)) rfl iX8 (by decide) wm_t62 rfl rfl dX5_heft_16 ?_
  refine lv_iload_n hx hb dX5_heft_19 rfl (lv_at hl 1 rfl) ?_
  have h4 := (rdK_e hf).1
  refine r_ald C hP (aS_2 (fV_S hfb)) h4 dX5_heft_20 ?_
  refine lv_topi (fun v3 ev3 => ?_)
  replace hf := rdK_n ev3 hf
  refine lv_iadd hx hb dX5_heft_21 ?_
  cases hf
  exact r_iret C hP hS dX5_heft_22
def fX5_roll (b : Nat) (σ : St) (a0 : Int32) : Option (Int32 × St) :=
(nmS (st_put σ b 4 ((1664525 * (σ b 4)) + 1013904223)) fun σ1 =>
some ((a0 * (((σ1 b 4).toUInt32 >>> ((30 : Int32).toUInt32 &&& Int32.toUInt32 31)).toInt32)), σ1))
set_option maxHeartbeats 4000000 in
theorem c_fX5_roll {E : Ev} {l : Launch} {b : Nat} (hfb : fV b) (hj : jW true E) (σ : St) (sz : Nat) (a0 : Int32) {rr : Int32} {sr : St} (hf : fX5_roll b σ a0 = some (rr, sr)) : Met l yX5_roll (Cond.code yX5_roll cX5_roll 2 (some .int) :: gT) (rmD 1) (va_Pc [.ref (ea E b), .int a0] (preW true E σ sz)) (QI true E rr sr sz) 0 0 (aW true E sz) := by
  refine r_entry (QI true E rr sr) hj (by decide) [.ref (ea E b), .int a0] (Nat.le_of_ble_eq_true rfl) (fun p e s m args below meth c C => ?_)
  intro H locs ls hP hS hl
  have hl : lv_has ls 2 [(0, .ref (ea E b)), (1, .int a0)] := hl
  obtain ⟨hx, hb, hr, hml, hown, hts, hlocks, hK, hX, hj⟩ := id C
  unfold fX5_roll at hf
  refine lv_aload_n hx hb dX5_roll_0 rfl (lv_at hl 0 rfl) ?_
  refine lv_ldc (v := 1664525) hx hb hown (hts _ wm_t753) dX5_roll_1 ?_
  refine lv_aload_n hx hb dX5_roll_3 rfl (lv_at hl 0 rfl) ?_
  refine r_get (k := 4) (v := .int (σ b 4)) C hP (oV hfb) rfl iX5 (by decide) wm_t100 rfl rfl dX5_roll_4 ?_
  refine lv_imul hx hb dX5_roll_7 ?_
  refine lv_ldc (v := 1013904223) hx hb hown (hts _ wm_t754) dX5_roll_8 ?_
  refine lv_iadd hx hb dX5_roll_10 ?_
  refine r_put (k := 4) (x := ((1664525 * (σ b 4)) + 1013904223)) C hP hS tyX5 tyX5_ok nmX5 (oV hfb) rfl iX5 (by decide) wm_t100 rfl rfl sV_4 rfl rfl (Nat.le_of_ble_eq_true rfl) dX5_roll_11 (fun H locs hP hS => ?_)
  obtain ⟨σ1, eσ1, hf⟩ := nmS_e hf
  rw [← eσ1] at hP
  refine lv_iload_n hx hb dX5_roll_14 rfl (lv_at hl 1 rfl) ?_
  refine lv_aload_n hx hb dX5_roll_15 rfl (lv_at hl 0 rfl) ?_
  refine r_get (k := 4) (v := .int (σ1 b 4)) C hP (oV hfb) rfl iX5 (by decide) wm_t100 rfl rfl dX5_roll_16 ?_
  refine lv_bipush (v := 30) hx hb dX5_roll_19 (by decide) ?_
  refine lv_iushr (v := ((σ1 b 4).toUInt32 >>> ((30 : Int32).toUInt32 &&& Int32.toUInt32 31)).toInt32) hx hb dX5_roll_21 rfl ?_
  refine lv_imul hx hb dX5_roll_22 ?_
  cases hf
  exact r_iret C hP hS dX5_roll_23
def fX6_fits (a0 : Int32) (a1 : Int32) : Int32 :=
(if a0 = (-1) then
1
else
(if a0 = a1 then
1
else
0))
set_option maxHeartbeats 4000000 in
theorem c_fX6_fits {E : Ev} {l : Launch} (hj : jW true E) (σ : St) (sz : Nat) (a0 : Int32) (a1 : Int32) : Met l yX6_fits (Cond.code yX6_fits cX6_fits 2 (some .boolean) :: gT) (rmD 1) (va_Pc [.int a0, .int a1] (preW true E σ sz)) (QI true E (fX6_fits a0 a1) σ sz) 0 0 (aW true E sz) := by
  refine r_entry (QI true E (fX6_fits a0 a1) σ) hj (by decide) [.int a0, .int a1] (Nat.le_of_ble_eq_true rfl) (fun p e s m args below meth c C => ?_)
  intro H locs ls hP hS hl
  have hl : lv_has ls 2 [(0, .int a0), (1, .int a1)] := hl
  obtain ⟨hx, hb, hr, hml, hown, hts, hlocks, hK, hX, hj⟩ := id C
  generalize hf : fX6_fits a0 a1 = rr
  unfold fX6_fits at hf
  refine lv_iload_n hx hb dX6_fits_0 rfl (lv_at hl 0 rfl) ?_
  refine lv_iconst (v := (-1)) hx hb dX6_fits_1 (by decide) ?_
  refine lv_icmp_eq (tgt := 10) hx hb dX6_fits_2 (by decide) (fun c1 => ?_) (fun c1 => ?_)
  · replace hf := it_t c1 hf
    refine lv_iconst (v := 1) hx hb dX6_fits_10 (by decide) ?_
    refine lv_goto (tgt := 15) hx hb dX6_fits_11 (by decide) ?_
    subst hf
    exact r_zret C rfl hP hS dX6_fits_15
  · replace hf := it_f c1 hf
    refine lv_iload_n hx hb dX6_fits_5 rfl (lv_at hl 0 rfl) ?_
    refine lv_iload_n hx hb dX6_fits_6 rfl (lv_at hl 1 rfl) ?_
    refine lv_icmp_ne (tgt := 14) hx hb dX6_fits_7 (by decide) (fun c2 => ?_) (fun c2 => ?_)
    · replace hf := it_f c2 hf
      refine lv_iconst (v := 0) hx hb dX6_fits_14 (by decide) ?_
      subst hf
      exact r_zret C rfl hP hS dX6_fits_15
    · replace hf := it_t c2 hf
      refine lv_iconst (v := 1) hx hb dX6_fits_10 (by decide) ?_
      refine lv_goto (tgt := 15) hx hb dX6_fits_11 (by decide) ?_
      subst hf
      exact r_zret C rfl hP hS dX6_fits_15
theorem z_fX6_fits (a0 : Int32) (a1 : Int32) : fX6_fits a0 a1 = 0 ∨ fX6_fits a0 a1 = 1 := by
  unfold fX6_fits
  repeat' split
  all_goals first | exact Or.inl rfl | exact Or.inr rfl
def fX8_copyFrom (σ : St) : Option St :=
(nm (if (nI (stN (10 + 2))) < (nI (stN (17 + 2))) then (nI (stN (10 + 2))) else (nI (stN (17 + 2)))) fun v1 =>
(acK (stN (10 + 2)) (stN (17 + 2)) σ ((10 + 2) + 1) ((17 + 2) + 1) 0 0 v1 fun σ2 =>
(acK (stN (10 + 2)) (stN (17 + 2)) σ2 ((10 + 2) + 2) ((17 + 2) + 2) 0 0 v1 fun σ4 =>
(acK (stN (10 + 2)) (stN (17 + 2)) σ4 ((10 + 2) + 3) ((17 + 2) + 3) 0 0 v1 fun σ6 =>
(acK (stN (10 + 2)) (stN (17 + 2)) σ6 ((10 + 2) + 4) ((17 + 2) + 4) 0 0 v1 fun σ8 =>
(nmS (st_put σ8 (17 + 2) 7 (σ8 (10 + 2) 7)) fun σ10 =>
some σ10))))))
set_option maxHeartbeats 4000000 in
theorem c_fX8_copyFrom {E : Ev} {l : Launch} (hj : jW true E) (σ : St) (sz : Nat) {sr : St} (hf : fX8_copyFrom σ = some sr) : Met l yX8_copyFrom (Cond.code yX8_copyFrom cX8_copyFrom 3 none :: gT) (rmD 2) (va_Pc [.ref (ea E (17 + 2)), .ref (ea E (10 + 2))] (preW true E σ sz)) (QV true E sr sz) 0 0 (aW true E sz) := by
  refine r_entry (QV true E sr) hj (by decide) [.ref (ea E (17 + 2)), .ref (ea E (10 + 2))] (Nat.le_of_ble_eq_true rfl) (fun p e s m args below meth c C => ?_)
  intro H locs ls hP hS hl
  have hl : lv_has ls 3 [(0, .ref (ea E (17 + 2))), (1, .ref (ea E (10 + 2)))] := hl
  obtain ⟨hx, hb, hr, hml, hown, hts, hlocks, hK, hX, hj⟩ := id C
  unfold fX8_copyFrom at hf
  refine lv_aload_n hx hb dX8_copyFrom_0 rfl (lv_at hl 0 rfl) ?_
  refine r_get (k := 3) (v := .ref (ea E ((17 + 2) + 1))) C hP (oS (fV_S fV_17)) rfl iX8 (by decide) wm_t55 rfl rfl dX8_copyFrom_1 ?_
  refine r_alen (v := (nI (stN (17 + 2)))) C hP (aS_1 (fV_S fV_17)) rfl dX8_copyFrom_4 ?_
  refine lv_aload_n hx hb dX8_copyFrom_5 rfl (lv_at hl 1 rfl) ?_
  refine r_get (k := 3) (v := .ref (ea E ((10 + 2) + 1))) C hP (oS (fV_S fV_10)) rfl iX8 (by decide) wm_t55 rfl rfl dX8_copyFrom_6 ?_
  refine r_alen (v := (nI (stN (10 + 2)))) C hP (aS_1 (fV_S fV_10)) rfl dX8_copyFrom_9 ?_
  refine va_mmin hx hb (hml.trans hl.1.symm) hown (hts _ wm_t652) (hts _ wm_t505) (hts _ wm_t4) (hts _ wm_t506) (by decide) (Nat.le_of_ble_eq_true rfl) (Nat.zero_le _) (Nat.zero_le _) dX8_copyFrom_10 ?_
  refine lv_topi (fun v1 ev1 => ?_)
  replace hf := nm_i ev1 hf
  refine lv_istore_n (lv' := [(2, .int v1), (0, .ref (ea E (17 + 2))), (1, .ref (ea E (10 + 2)))]) hx hb dX8_copyFrom_13 rfl hl (by decide) rfl (fun ls hl => ?_)
  refine lv_aload_n hx hb dX8_copyFrom_14 rfl (lv_at hl 2 rfl) ?_
  refine r_get (k := 3) (v := .ref (ea E ((10 + 2) + 1))) C hP (oS (fV_S fV_10)) rfl iX8 (by decide) wm_t55 rfl rfl dX8_copyFrom_15 ?_
  refine lv_iconst (v := 0) hx hb dX8_copyFrom_18 (by decide) ?_
  refine lv_aload_n hx hb dX8_copyFrom_19 rfl (lv_at hl 1 rfl) ?_
  refine r_get (k := 3) (v := .ref (ea E ((17 + 2) + 1))) C hP (oS (fV_S fV_17)) rfl iX8 (by decide) wm_t55 rfl rfl dX8_copyFrom_20 ?_
  refine lv_iconst (v := 0) hx hb dX8_copyFrom_23 (by decide) ?_
  refine lv_iload_n hx hb dX8_copyFrom_24 rfl (lv_at hl 0 rfl) ?_
  obtain ⟨h3, σ2, eσ2, hf⟩ := acK_e hf
  refine r_acp C hP hS hl.1 wm_t982 wm_t984 wm_t983 wm_t20 (aS_1 (fV_S fV_10)) (aS_1 (fV_S fV_17)) h3 (by decide) (Nat.le_of_ble_eq_true rfl) dX8_copyFrom_25 (fun H locs hP hS => ?_)
  rw [← eσ2] at hP
  refine lv_aload_n hx hb dX8_copyFrom_28 rfl (lv_at hl 2 rfl) ?_
  refine r_get (k := 4) (v := .ref (ea E ((10 + 2) + 2))) C hP (oS (fV_S fV_10)) rfl iX8 (by decide) wm_t60 rfl rfl dX8_copyFrom_29 ?_
  refine lv_iconst (v := 0) hx hb dX8_copyFrom_32 (by decide) ?_
  refine lv_aload_n hx hb dX8_copyFrom_33 rfl (lv_at hl 1 rfl) ?_
  refine r_get (k := 4) (v := .ref (ea E ((17 + 2) + 2))) C hP (oS (fV_S fV_17)) rfl iX8 (by decide) wm_t60 rfl rfl dX8_copyFrom_34 ?_
  refine lv_iconst (v := 0) hx hb dX8_copyFrom_37 (by decide) ?_
  refine lv_iload_n hx hb dX8_copyFrom_38 rfl (lv_at hl 0 rfl) ?_
  obtain ⟨h5, σ4, eσ4, hf⟩ := acK_e hf
  refine r_acp C hP hS hl.1 wm_t982 wm_t984 wm_t983 wm_t20 (aS_2 (fV_S fV_10)) (aS_2 (fV_S fV_17)) h5 (by decide) (Nat.le_of_ble_eq_true rfl) dX8_copyFrom_39 (fun H locs hP hS => ?_)
  rw [← eσ4] at hP
  refine lv_aload_n hx hb dX8_copyFrom_42 rfl (lv_at hl 2 rfl) ?_
  refine r_get (k := 5) (v := .ref (ea E ((10 + 2) + 3))) C hP (oS (fV_S fV_10)) rfl iX8 (by decide) wm_t63 rfl rfl dX8_copyFrom_43 ?_
  refine lv_iconst (v := 0) hx hb dX8_copyFrom_46 (by decide) ?_
  refine lv_aload_n hx hb dX8_copyFrom_47 rfl (lv_at hl 1 rfl) ?_
  refine r_get (k := 5) (v := .ref (ea E ((17 + 2) + 3))) C hP (oS (fV_S fV_17)) rfl iX8 (by decide) wm_t63 rfl rfl dX8_copyFrom_48 ?_
  refine lv_iconst (v := 0) hx hb dX8_copyFrom_51 (by decide) ?_
  refine lv_iload_n hx hb dX8_copyFrom_52 rfl (lv_at hl 0 rfl) ?_
  obtain ⟨h7, σ6, eσ6, hf⟩ := acK_e hf
  refine r_acp C hP hS hl.1 wm_t982 wm_t984 wm_t983 wm_t20 (aS_3 (fV_S fV_10)) (aS_3 (fV_S fV_17)) h7 (by decide) (Nat.le_of_ble_eq_true rfl) dX8_copyFrom_53 (fun H locs hP hS => ?_)
  rw [← eσ6] at hP
  refine lv_aload_n hx hb dX8_copyFrom_56 rfl (lv_at hl 2 rfl) ?_
  refine r_get (k := 6) (v := .ref (ea E ((10 + 2) + 4))) C hP (oS (fV_S fV_10)) rfl iX8 (by decide) wm_t65 rfl rfl dX8_copyFrom_57 ?_
  refine lv_iconst (v := 0) hx hb dX8_copyFrom_60 (by decide) ?_
  refine lv_aload_n hx hb dX8_copyFrom_61 rfl (lv_at hl 1 rfl) ?_
  refine r_get (k := 6) (v := .ref (ea E ((17 + 2) + 4))) C hP (oS (fV_S fV_17)) rfl iX8 (by decide) wm_t65 rfl rfl dX8_copyFrom_62 ?_
  refine lv_iconst (v := 0) hx hb dX8_copyFrom_65 (by decide) ?_
  refine lv_iload_n hx hb dX8_copyFrom_66 rfl (lv_at hl 0 rfl) ?_
  obtain ⟨h9, σ8, eσ8, hf⟩ := acK_e hf
  refine r_acp C hP hS hl.1 wm_t982 wm_t984 wm_t983 wm_t20 (aS_4 (fV_S fV_10)) (aS_4 (fV_S fV_17)) h9 (by decide) (Nat.le_of_ble_eq_true rfl) dX8_copyFrom_67 (fun H locs hP hS => ?_)
  rw [← eσ8] at hP
  refine lv_aload_n hx hb dX8_copyFrom_70 rfl (lv_at hl 1 rfl) ?_
  refine lv_aload_n hx hb dX8_copyFrom_71 rfl (lv_at hl 2 rfl) ?_
  refine r_get (k := 7) (v := .int (σ8 (10 + 2) 7)) C hP (oS (fV_S fV_10)) rfl iX8 (by decide) wm_t67 rfl rfl dX8_copyFrom_72 ?_
  refine r_put (k := 7) (x := (σ8 (10 + 2) 7)) C hP hS tyX8 tyX8_ok nmX8 (oS (fV_S fV_17)) rfl iX8 (by decide) wm_t67 rfl rfl sS_7 rfl rfl (Nat.le_of_ble_eq_true rfl) dX8_copyFrom_75 (fun H locs hP hS => ?_)
  obtain ⟨σ10, eσ10, hf⟩ := nmS_e hf
  rw [← eσ10] at hP
  cases hf
  exact r_vret C hP hS dX8_copyFrom_78
def fX8_wetAt (b : Nat) (σ : St) (a0 : Int32) : Option Int32 :=
(rdK (stN b) (σ (b + 1)) a0 fun v1 =>
(if v1 ≤ 0 then
some 0
else
(rdK (stN b) (σ (b + 2)) a0 fun v4 =>
(rdK (stN b) (σ (b + 1)) a0 fun v6 =>
(nz v6 (
some (v4 / v6)))))))
set_option maxHeartbeats 4000000 in
theorem c_fX8_wetAt {E : Ev} {l : Launch} {b : Nat} (hfb : fS b) (hj : jW true E) (σ : St) (sz : Nat) (a0 : Int32) {rr : Int32} (hf : fX8_wetAt b σ a0 = some rr) : Met l yX8_wetAt (Cond.code yX8_wetAt cX8_wetAt 2 (some .int) :: gT) (rmD 1) (va_Pc [.ref (ea E b), .int a0] (preW true E σ sz)) (QI true E rr σ sz) 0 0 (aW true E sz) := by
  refine r_entry (QI true E rr σ) hj (by decide) [.ref (ea E b), .int a0] (Nat.le_of_ble_eq_true rfl) (fun p e s m args below meth c C => ?_)
  intro H locs ls hP hS hl
  have hl : lv_has ls 2 [(0, .ref (ea E b)), (1, .int a0)] := hl
  obtain ⟨hx, hb, hr, hml, hown, hts, hlocks, hK, hX, hj⟩ := id C
  unfold fX8_wetAt at hf
  refine lv_aload_n hx hb dX8_wetAt_0 rfl (lv_at hl 0 rfl) ?_
  refine r_get (k := 3) (v := .ref (ea E (b + 1))) C hP (oS hfb) rfl iX8 (by decide) wm_t55 rfl rfl dX8_wetAt_1 ?_
  refine lv_iload_n hx hb dX8_wetAt_4 rfl (lv_at hl 1 rfl) ?_
  have h2 := (rdK_e hf).1
  refine r_ald C hP (aS_1 hfb) h2 dX8_wetAt_5 ?_
  refine lv_topi (fun v1 ev1 => ?_)
  replace hf := rdK_n ev1 hf
  refine lv_if_le (tgt := 25) hx hb dX8_wetAt_6 (by decide) (fun c3 => ?_) (fun c3 => ?_)
  · replace hf := it_t c3 hf
    refine lv_iconst (v := 0) hx hb dX8_wetAt_25 (by decide) ?_
    cases hf
    exact r_iret C hP hS dX8_wetAt_26
  · replace hf := it_f c3 hf
    refine lv_aload_n hx hb dX8_wetAt_9 rfl (lv_at hl 0 rfl) ?_
    refine r_get (k := 4) (v := .ref (ea E (b + 2))) C hP (oS hfb) rfl iX8 (by decide) wm_t60 rfl rfl dX8_wetAt_10 ?_
    refine lv_iload_n hx hb dX8_wetAt_13 rfl (lv_at hl 1 rfl) ?_
    have h5 := (rdK_e hf).1
    refine r_ald C hP (aS_2 hfb) h5 dX8_wetAt_14 ?_
    refine lv_topi (fun v4 ev4 => ?_)
    replace hf := rdK_n ev4 hf
    refine lv_aload_n hx hb dX8_wetAt_15 rfl (lv_at hl 0 rfl) ?_
    refine r_get (k := 3) (v := .ref (ea E (b + 1))) C hP (oS hfb) rfl iX8 (by decide) wm_t55 rfl rfl dX8_wetAt_16 ?_
    refine lv_iload_n hx hb dX8_wetAt_19 rfl (lv_at hl 1 rfl) ?_
    have h7 := (rdK_e hf).1
    refine r_ald C hP (aS_1 hfb) h7 dX8_wetAt_20 ?_
    refine lv_topi (fun v6 ev6 => ?_)
    replace hf := rdK_n ev6 hf
    obtain ⟨h8, hf⟩ := nz_e hf
    refine lv_idiv hx hb dX8_wetAt_21 h8 ?_
    refine lv_goto (tgt := 26) hx hb dX8_wetAt_22 (by decide) ?_
    cases hf
    exact r_iret C hP hS dX8_wetAt_26
def fX8_cellsWithOre_4B (b : Nat) (σ : St) (rec4 : Int32 → Int32 → Option Int32) (x1 : Int32) (x2 : Int32) : Option Int32 :=
(if (nI (stN b)) ≤ x2 then
some x1
else
(rdK (stN b) (σ (b + 1)) x2 fun v2 =>
(if v2 ≤ 0 then
rec4 (x1 + 0) (x2 + 1)
else
rec4 (x1 + 1) (x2 + 1))))
set_option maxHeartbeats 4000000 in
theorem b_fX8_cellsWithOre_4B {E : Ev} {l : Launch} {p : Program} {e : Env} {s : State} {m : MethodId} {args : Array Value} {below : List Frame} {meth : Method} {c : Code} {b : Nat} (hfb : fS b) (σ : St) (C : CX true E RX8 cX8_cellsWithOre 3 (some .int) p s m args meth c) {rr : Int32} (rec4 : Int32 → Int32 → Option Int32) (hr4 : ∀  (x1 : Int32) (x2 : Int32), rec4 x1 x2 = some rr → GW true l (rmD 1) E 3 p e s m args below meth c (MQ below (QI true E rr σ s.heap.size) args s 0 0 (aW true E s.heap.size)) σ 4 [(0, .ref (ea E b)), (1, .int x1), (2, .int x2)] []) : ∀  (x1 : Int32) (x2 : Int32), fX8_cellsWithOre_4B b σ rec4 x1 x2 = some rr → GW true l (rmD 1) E 3 p e s m args below meth c (MQ below (QI true E rr σ s.heap.size) args s 0 0 (aW true E s.heap.size)) σ 4 [(0, .ref (ea E b)), (1, .int x1), (2, .int x2)] [] := by
  intro x1 x2 hf H locs ls hP hS hl
  obtain ⟨hx, hb, hr, hml, hown, hts, hlocks, hK, hX, hj⟩ := id C
  unfold fX8_cellsWithOre_4B at hf
  refine lv_iload_n hx hb dX8_cellsWithOre_4 rfl (lv_at hl 2 rfl) ?_
  refine lv_aload_n hx hb dX8_cellsWithOre_5 rfl (lv_at hl 0 rfl) ?_
  refine r_get (k := 3) (v := .ref (ea E (b + 1))) C hP (oS hfb) rfl iX8 (by decide) wm_t55 rfl rfl dX8_cellsWithOre_6 ?_
  refine r_alen (v := (nI (stN b))) C hP (aS_1 hfb) rfl dX8_cellsWithOre_9 ?_
  refine lv_icmp_ge (tgt := 36) hx hb dX8_cellsWithOre_10 (by decide) (fun c1 => ?_) (fun c1 => ?_)
  · replace hf := it_t c1 hf
    refine lv_iload_n hx hb dX8_cellsWithOre_36 rfl (lv_at hl 1 rfl) ?_
    cases hf
    exact r_iret C hP hS dX8_cellsWithOre_37
  · replace hf := it_f c1 hf
    refine lv_iload_n hx hb dX8_cellsWithOre_13 rfl (lv_at hl 1 rfl) ?_
    refine lv_aload_n hx hb dX8_cellsWithOre_14 rfl (lv_at hl 0 rfl) ?_
    refine r_get (k := 3) (v := .ref (ea E (b + 1))) C hP (oS hfb) rfl iX8 (by decide) wm_t55 rfl rfl dX8_cellsWithOre_15 ?_
    refine lv_iload_n hx hb dX8_cellsWithOre_18 rfl (lv_at hl 2 rfl) ?_
    have h3 := (rdK_e hf).1
    refine r_ald C hP (aS_1 hfb) h3 dX8_cellsWithOre_19 ?_
    refine lv_topi (fun v2 ev2 => ?_)
    replace hf := rdK_n ev2 hf
    refine lv_if_le (tgt := 27) hx hb dX8_cellsWithOre_20 (by decide) (fun c4 => ?_) (fun c4 => ?_)
    · replace hf := it_t c4 hf
      refine lv_iconst (v := 0) hx hb dX8_cellsWithOre_27 (by decide) ?_
      refine lv_iadd hx hb dX8_cellsWithOre_28 ?_
      refine lv_istore_n (lv' := [(1, .int (x1 + 0)), (0, .ref (ea E b)), (2, .int x2)]) hx hb dX8_cellsWithOre_29 rfl hl (by decide) rfl (fun ls hl => ?_)
      refine lv_iinc (v := (x2 + 1)) (lv' := [(2, .int (x2 + 1)), (1, .int (x1 + 0)), (0, .ref (ea E b))]) hx hb dX8_cellsWithOre_30 hl (k := 2) rfl rfl (by decide) rfl (fun ls hl => ?_)
      refine lv_goto (tgt := 4) hx hb dX8_cellsWithOre_33 (by decide) ?_
      exact hr4 (x1 + 0) (x2 + 1) hf H locs ls hP hS (lv_sub hl [2, 1, 0] rfl)
    · replace hf := it_f c4 hf
      refine lv_iconst (v := 1) hx hb dX8_cellsWithOre_23 (by decide) ?_
      refine lv_goto (tgt := 28) hx hb dX8_cellsWithOre_24 (by decide) ?_
      refine lv_iadd hx hb dX8_cellsWithOre_28 ?_
      refine lv_istore_n (lv' := [(1, .int (x1 + 1)), (0, .ref (ea E b)), (2, .int x2)]) hx hb dX8_cellsWithOre_29 rfl hl (by decide) rfl (fun ls hl => ?_)
      refine lv_iinc (v := (x2 + 1)) (lv' := [(2, .int (x2 + 1)), (1, .int (x1 + 1)), (0, .ref (ea E b))]) hx hb dX8_cellsWithOre_30 hl (k := 2) rfl rfl (by decide) rfl (fun ls hl => ?_)
      refine lv_goto (tgt := 4) hx hb dX8_cellsWithOre_33 (by decide) ?_
      exact hr4 (x1 + 1) (x2 + 1) hf H locs ls hP hS (lv_sub hl [2, 1, 0] rfl)
def fX8_cellsWithOre_4 (b : Nat) (σ : St) : Nat → Int32 → Int32 → Option Int32
  | 0 => fun _ _ => none
  | n + 1 => fun x1 x2 => fX8_cellsWithOre_4B b σ (fX8_cellsWithOre_4 b σ n) x1 x2
theorem b_fX8_cellsWithOre_4 {E : Ev} {l : Launch} {p : Program} {e : Env} {s : State} {m : MethodId} {args : Array Value} {below : List Frame} {meth : Method} {c : Code} {b : Nat} (hfb : fS b) (σ : St) (C : CX true E RX8 cX8_cellsWithOre 3 (some .int) p s m args meth c) {rr : Int32} : ∀ (n : Nat) (x1 : Int32) (x2 : Int32), fX8_cellsWithOre_4 b σ n x1 x2 = some rr → GW true l (rmD 1) E 3 p e s m args below meth c (MQ below (QI true E rr σ s.heap.size) args s 0 0 (aW true E s.heap.size)) σ 4 [(0, .ref (ea E b)), (1, .int x1), (2, .int x2)] [] := by
  intro n
  induction n with
  | zero => intro x1 x2 hf; have hf : (none : Option _) = some _ := hf; cases hf
  | succ n ih => intro x1 x2 hf; exact b_fX8_cellsWithOre_4B hfb σ C (fX8_cellsWithOre_4 b σ n) ih x1 x2 hf
def fX8_cellsWithOre (b : Nat) (σ : St) : Option Int32 :=
fX8_cellsWithOre_4 b σ FU 0 0
set_option maxHeartbeats 4000000 in
theorem c_fX8_cellsWithOre {E : Ev} {l : Launch} {b : Nat} (hfb : fS b) (hj : jW true E) (σ : St) (sz : Nat) {rr : Int32} (hf : fX8_cellsWithOre b σ = some rr) : Met l yX8_cellsWithOre (Cond.code yX8_cellsWithOre cX8_cellsWithOre 3 (some .int) :: gT) (rmD 1) (va_Pc [.ref (ea E b)] (preW true E σ sz)) (QI true E rr σ sz) 0 0 (aW true E sz) := by
  refine r_entry (QI true E rr σ) hj (by decide) [.ref (ea E b)] (Nat.le_of_ble_eq_true rfl) (fun p e s m args below meth c C => ?_)
  intro H locs ls hP hS hl
  have hl : lv_has ls 3 [(0, .ref (ea E b))] := hl
  obtain ⟨hx, hb, hr, hml, hown, hts, hlocks, hK, hX, hj⟩ := id C
  unfold fX8_cellsWithOre at hf
  refine lv_iconst (v := 0) hx hb dX8_cellsWithOre_0 (by decide) ?_
  refine lv_istore_n (lv' := [(1, .int 0), (0, .ref (ea E b))]) hx hb dX8_cellsWithOre_1 rfl hl (by decide) rfl (fun ls hl => ?_)
  refine lv_iconst (v := 0) hx hb dX8_cellsWithOre_2 (by decide) ?_
  refine lv_istore_n (lv' := [(2, .int 0), (1, .int 0), (0, .ref (ea E b))]) hx hb dX8_cellsWithOre_3 rfl hl (by decide) rfl (fun ls hl => ?_)
  exact b_fX8_cellsWithOre_4 hfb σ C FU 0 0 hf H locs ls hP hS (lv_sub hl [2, 1, 0] rfl)
def fX8_cellsOfSoup_4B (b : Nat) (σ : St) (rec4 : Int32 → Int32 → Option Int32) (x1 : Int32) (x2 : Int32) : Option Int32 :=
(if (nI (stN b)) ≤ x2 then
some x1
else
(rdK (stN b) (σ (b + 4)) x2 fun v2 =>
rec4 (x1 + v2) (x2 + 1)))
set_option maxHeartbeats 4000000 in
theorem b_fX8_cellsOfSoup_4B {E : Ev} {l : Launch} {p : Program} {e : Env} {s : State} {m : MethodId} {args : Array Value} {below : List Frame} {meth : Method} {c : Code} {b : Nat} (hfb : fS b) (σ : St) (C : CX true E RX8 cX8_cellsOfSoup 3 (some .int) p s m args meth c) {rr : Int32} (rec4 : Int32 → Int32 → Option Int32) (hr4 : ∀  (x1 : Int32) (x2 : Int32), rec4 x1 x2 = some rr → GW true l (rmD 1) E 3 p e s m args below meth c (MQ below (QI true E rr σ s.heap.size) args s 0 0 (aW true E s.heap.size)) σ 4 [(0, .ref (ea E b)), (1, .int x1), (2, .int x2)] []) : ∀  (x1 : Int32) (x2 : Int32), fX8_cellsOfSoup_4B b σ rec4 x1 x2 = some rr → GW true l (rmD 1) E 3 p e s m args below meth c (MQ below (QI true E rr σ s.heap.size) args s 0 0 (aW true E s.heap.size)) σ 4 [(0, .ref (ea E b)), (1, .int x1), (2, .int x2)] [] := by
  intro x1 x2 hf H locs ls hP hS hl
  obtain ⟨hx, hb, hr, hml, hown, hts, hlocks, hK, hX, hj⟩ := id C
  unfold fX8_cellsOfSoup_4B at hf
  refine lv_iload_n hx hb dX8_cellsOfSoup_4 rfl (lv_at hl 2 rfl) ?_
  refine lv_aload_n hx hb dX8_cellsOfSoup_5 rfl (lv_at hl 0 rfl) ?_
  refine r_get (k := 6) (v := .ref (ea E (b + 4))) C hP (oS hfb) rfl iX8 (by decide) wm_t65 rfl rfl dX8_cellsOfSoup_6 ?_
  refine r_alen (v := (nI (stN b))) C hP (aS_4 hfb) rfl dX8_cellsOfSoup_9 ?_
  refine lv_icmp_ge (tgt := 28) hx hb dX8_cellsOfSoup_10 (by decide) (fun c1 => ?_) (fun c1 => ?_)
  · replace hf := it_t c1 hf
    refine lv_iload_n hx hb dX8_cellsOfSoup_28 rfl (lv_at hl 1 rfl) ?_
    cases hf
    exact r_iret C hP hS dX8_cellsOfSoup_29
  · replace hf := it_f c1 hf
    refine lv_iload_n hx hb dX8_cellsOfSoup_13 rfl (lv_at hl 1 rfl) ?_
    refine lv_aload_n hx hb dX8_cellsOfSoup_14 rfl (lv_at hl 0 rfl) ?_
    refine r_get (k := 6) (v := .ref (ea E (b + 4))) C hP (oS hfb) rfl iX8 (by decide) wm_t65 rfl rfl dX8_cellsOfSoup_15 ?_
    refine lv_iload_n hx hb dX8_cellsOfSoup_18 rfl (lv_at hl 2 rfl) ?_
    have h3 := (rdK_e hf).1
    refine r_ald C hP (aS_4 hfb) h3 dX8_cellsOfSoup_19 ?_
    refine lv_topi (fun v2 ev2 => ?_)
    replace hf := rdK_n ev2 hf
    refine lv_iadd hx hb dX8_cellsOfSoup_20 ?_
    refine lv_istore_n (lv' := [(1, .int (x1 + v2)), (0, .ref (ea E b)), (2, .int x2)]) hx hb dX8_cellsOfSoup_21 rfl hl (by decide) rfl (fun ls hl => ?_)
    refine lv_iinc (v := (x2 + 1)) (lv' := [(2, .int (x2 + 1)), (1, .int (x1 + v2)), (0, .ref (ea E b))]) hx hb dX8_cellsOfSoup_22 hl (k := 2) rfl rfl (by decide) rfl (fun ls hl => ?_)
    refine lv_goto (tgt := 4) hx hb dX8_cellsOfSoup_25 (by decide) ?_
    exact hr4 (x1 + v2) (x2 + 1) hf H locs ls hP hS (lv_sub hl [2, 1, 0] rfl)
def fX8_cellsOfSoup_4 (b : Nat) (σ : St) : Nat → Int32 → Int32 → Option Int32
  | 0 => fun _ _ => none
  | n + 1 => fun x1 x2 => fX8_cellsOfSoup_4B b σ (fX8_cellsOfSoup_4 b σ n) x1 x2
theorem b_fX8_cellsOfSoup_4 {E : Ev} {l : Launch} {p : Program} {e : Env} {s : State} {m : MethodId} {args : Array Value} {below : List Frame} {meth : Method} {c : Code} {b : Nat} (hfb : fS b) (σ : St) (C : CX true E RX8 cX8_cellsOfSoup 3 (some .int) p s m args meth c) {rr : Int32} : ∀ (n : Nat) (x1 : Int32) (x2 : Int32), fX8_cellsOfSoup_4 b σ n x1 x2 = some rr → GW true l (rmD 1) E 3 p e s m args below meth c (MQ below (QI true E rr σ s.heap.size) args s 0 0 (aW true E s.heap.size)) σ 4 [(0, .ref (ea E b)), (1, .int x1), (2, .int x2)] [] := by
  intro n
  induction n with
  | zero => intro x1 x2 hf; have hf : (none : Option _) = some _ := hf; cases hf
  | succ n ih => intro x1 x2 hf; exact b_fX8_cellsOfSoup_4B hfb σ C (fX8_cellsOfSoup_4 b σ n) ih x1 x2 hf
def fX8_cellsOfSoup (b : Nat) (σ : St) : Option Int32 :=
fX8_cellsOfSoup_4 b σ FU 0 0
set_option maxHeartbeats 4000000 in
theorem c_fX8_cellsOfSoup {E : Ev} {l : Launch} {b : Nat} (hfb : fS b) (hj : jW true E) (σ : St) (sz : Nat) {rr : Int32} (hf : fX8_cellsOfSoup b σ = some rr) : Met l yX8_cellsOfSoup (Cond.code yX8_cellsOfSoup cX8_cellsOfSoup 3 (some .int) :: gT) (rmD 1) (va_Pc [.ref (ea E b)] (preW true E σ sz)) (QI true E rr σ sz) 0 0 (aW true E sz) := by
  refine r_entry (QI true E rr σ) hj (by decide) [.ref (ea E b)] (Nat.le_of_ble_eq_true rfl) (fun p e s m args below meth c C => ?_)
  intro H locs ls hP hS hl
  have hl : lv_has ls 3 [(0, .ref (ea E b))] := hl
  obtain ⟨hx, hb, hr, hml, hown, hts, hlocks, hK, hX, hj⟩ := id C
  unfold fX8_cellsOfSoup at hf
  refine lv_iconst (v := 0) hx hb dX8_cellsOfSoup_0 (by decide) ?_
  refine lv_istore_n (lv' := [(1, .int 0), (0, .ref (ea E b))]) hx hb dX8_cellsOfSoup_1 rfl hl (by decide) rfl (fun ls hl => ?_)
  refine lv_iconst (v := 0) hx hb dX8_cellsOfSoup_2 (by decide) ?_
  refine lv_istore_n (lv' := [(2, .int 0), (1, .int 0), (0, .ref (ea E b))]) hx hb dX8_cellsOfSoup_3 rfl hl (by decide) rfl (fun ls hl => ?_)
  exact b_fX8_cellsOfSoup_4 hfb σ C FU 0 0 hf H locs ls hP hS (lv_sub hl [2, 1, 0] rfl)
def fX8_pour (b : Nat) (σ : St) (a0 : Int32) (a1 : Int32) : Option St :=
(rdK (stN b) (σ (b + 2)) a0 fun v1 =>
(wrK (stN b) σ (b + 2) a0 (if 9999 < (v1 + a1) then 9999 else (v1 + a1)) fun σ3 =>
(rdK (stN b) (σ3 (b + 2)) a0 fun v5 =>
(nmS (st_put σ3 b 7 ((σ3 b 7) + ((v1 + a1) - v5))) fun σ7 =>
some σ7))))
set_option maxHeartbeats 4000000 in
theorem c_fX8_pour {E : Ev} {l : Launch} {b : Nat} (hfb : fS b) (hj : jW true E) (σ : St) (sz : Nat) (a0 : Int32) (a1 : Int32) {sr : St} (hf : fX8_pour b σ a0 a1 = some sr) : Met l yX8_pour (Cond.code yX8_pour cX8_pour 4 none :: gT) (rmD 2) (va_Pc [.ref (ea E b), .int a0, .int a1] (preW true E σ sz)) (QV true E sr sz) 0 0 (aW true E sz) := by
  refine r_entry (QV true E sr) hj (by decide) [.ref (ea E b), .int a0, .int a1] (Nat.le_of_ble_eq_true rfl) (fun p e s m args below meth c C => ?_)
  intro H locs ls hP hS hl
  have hl : lv_has ls 4 [(0, .ref (ea E b)), (1, .int a0), (2, .int a1)] := hl
  obtain ⟨hx, hb, hr, hml, hown, hts, hlocks, hK, hX, hj⟩ := id C
  unfold fX8_pour at hf
  refine lv_aload_n hx hb dX8_pour_0 rfl (lv_at hl 0 rfl) ?_
  refine r_get (k := 4) (v := .ref (ea E (b + 2))) C hP (oS hfb) rfl iX8 (by decide) wm_t60 rfl rfl dX8_pour_1 ?_
  refine lv_iload_n hx hb dX8_pour_4 rfl (lv_at hl 1 rfl) ?_
  have h2 := (rdK_e hf).1
  refine r_ald C hP (aS_2 hfb) h2 dX8_pour_5 ?_
  refine lv_topi (fun v1 ev1 => ?_)
  replace hf := rdK_n ev1 hf
  refine lv_iload_n hx hb dX8_pour_6 rfl (lv_at hl 2 rfl) ?_
  refine lv_iadd hx hb dX8_pour_7 ?_
  refine lv_istore_n (lv' := [(3, .int (v1 + a1)), (0, .ref (ea E b)), (1, .int a0), (2, .int a1)]) hx hb dX8_pour_8 rfl hl (by decide) rfl (fun ls hl => ?_)
  refine lv_aload_n hx hb dX8_pour_9 rfl (lv_at hl 1 rfl) ?_
  refine r_get (k := 4) (v := .ref (ea E (b + 2))) C hP (oS hfb) rfl iX8 (by decide) wm_t60 rfl rfl dX8_pour_10 ?_
  refine lv_iload_n hx hb dX8_pour_13 rfl (lv_at hl 2 rfl) ?_
  refine lv_iload_n hx hb dX8_pour_14 rfl (lv_at hl 0 rfl) ?_
  refine lv_sipush (v := 9999) hx hb dX8_pour_15 (by decide) ?_
  refine va_mmin hx hb (hml.trans hl.1.symm) hown (hts _ wm_t652) (hts _ wm_t505) (hts _ wm_t4) (hts _ wm_t506) (by decide) (Nat.le_of_ble_eq_true rfl) (Nat.zero_le _) (Nat.zero_le _) dX8_pour_18 ?_
  obtain ⟨h4, σ3, eσ3, hf⟩ := wrK_e hf
  refine r_ast C hP hS (aS_2 hfb) h4 dX8_pour_21 (fun H locs hP hS => ?_)
  rw [← eσ3] at hP
  refine lv_aload_n hx hb dX8_pour_22 rfl (lv_at hl 1 rfl) ?_
  refine lv_dup hx hb dX8_pour_23 rfl ?_
  refine r_get (k := 7) (v := .int (σ3 b 7)) C hP (oS hfb) rfl iX8 (by decide) wm_t67 rfl rfl dX8_pour_24 ?_
  refine lv_iload_n hx hb dX8_pour_27 rfl (lv_at hl 0 rfl) ?_
  refine lv_aload_n hx hb dX8_pour_28 rfl (lv_at hl 1 rfl) ?_
  refine r_get (k := 4) (v := .ref (ea E (b + 2))) C hP (oS hfb) rfl iX8 (by decide) wm_t60 rfl rfl dX8_pour_29 ?_
  refine lv_iload_n hx hb dX8_pour_32 rfl (lv_at hl 2 rfl) ?_
  have h6 := (rdK_e hf).1
  refine r_ald C hP (aS_2 hfb) h6 dX8_pour_33 ?_
  refine lv_topi (fun v5 ev5 => ?_)
  replace hf := rdK_n ev5 hf
  refine lv_isub hx hb dX8_pour_34 ?_
  refine lv_iadd hx hb dX8_pour_35 ?_
  refine r_put (k := 7) (x := ((σ3 b 7) + ((v1 + a1) - v5))) C hP hS tyX8 tyX8_ok nmX8 (oS hfb) rfl iX8 (by decide) wm_t67 rfl rfl sS_7 rfl rfl (Nat.le_of_ble_eq_true rfl) dX8_pour_36 (fun H locs hP hS => ?_)
  obtain ⟨σ7, eσ7, hf⟩ := nmS_e hf
  rw [← eσ7] at hP
  cases hf
  exact r_vret C hP hS dX8_pour_39
