def fJ0_coder_7d493 (k : Nat) : Int32 :=
0
set_option maxHeartbeats 4000000 in
theorem c_fJ0_coder_7d493 {E : Ev} {l : Launch} {k : Nat} (hk : fK k) (hj : jW true E) (σ : St) (sz : Nat) : Met l yJ0_coder_7d493 (Cond.code yJ0_coder_7d493 cJ0_coder_7d493 1 (some .byte) :: gT) (rmD 1) (va_Pc [.ref (eK E k)] (preW true E σ sz)) (QI true E (fJ0_coder_7d493 k) σ sz) 0 0 (aW true E sz) := by
  refine r_entry (QI true E (fJ0_coder_7d493 k) σ) hj (by decide) [.ref (eK E k)] (Nat.le_of_ble_eq_true rfl) (fun p e s m args below meth c C => ?_)
  intro H locs ls hP hS hl
  have hl : lv_has ls 1 [(0, .ref (eK E k))] := hl
  obtain ⟨hx, hb, hr, hml, hown, hts, hlocks, hK, hX, hj⟩ := id C
  generalize hf : fJ0_coder_7d493 k = rr
  unfold fJ0_coder_7d493 at hf
  refine va_gets hx hb hX.2.2.2.1 hS hown (hts _ wm_t443) (fun _ h => h) dJ0_coder_7d493_0 ?_
  refine lv_if_eq (tgt := 13) hx hb dJ0_coder_7d493_3 (by decide) (fun c1 => absurd c1 (by decide)) (fun c1 => ?_)
  refine lv_aload_n hx hb dJ0_coder_7d493_6 rfl (lv_at hl 0 rfl) ?_
  refine vk_getf hx hb (hX.2.1.1 k hk).2.1 hS hown (hts _ wm_t1581) (fun _ h => h) dJ0_coder_7d493_7 ?_
  refine lv_goto (tgt := 14) hx hb dJ0_coder_7d493_10 (by decide) ?_
  subst hf
  exact r_zret C rfl hP hS dJ0_coder_7d493_14
def fJ0_isLatin1_aae02 (k : Nat) : Int32 :=
1
set_option maxHeartbeats 4000000 in
theorem c_fJ0_isLatin1_aae02 {E : Ev} {l : Launch} {k : Nat} (hk : fK k) (hj : jW true E) (σ : St) (sz : Nat) : Met l yJ0_isLatin1_aae02 (Cond.code yJ0_isLatin1_aae02 cJ0_isLatin1_aae02 1 (some .boolean) :: gT) (rmD 1) (va_Pc [.ref (eK E k)] (preW true E σ sz)) (QI true E (fJ0_isLatin1_aae02 k) σ sz) 0 0 (aW true E sz) := by
  refine r_entry (QI true E (fJ0_isLatin1_aae02 k) σ) hj (by decide) [.ref (eK E k)] (Nat.le_of_ble_eq_true rfl) (fun p e s m args below meth c C => ?_)
  intro H locs ls hP hS hl
  have hl : lv_has ls 1 [(0, .ref (eK E k))] := hl
  obtain ⟨hx, hb, hr, hml, hown, hts, hlocks, hK, hX, hj⟩ := id C
  generalize hf : fJ0_isLatin1_aae02 k = rr
  unfold fJ0_isLatin1_aae02 at hf
  refine va_gets hx hb hX.2.2.2.1 hS hown (hts _ wm_t443) (fun _ h => h) dJ0_isLatin1_aae02_0 ?_
  refine lv_if_eq (tgt := 17) hx hb dJ0_isLatin1_aae02_3 (by decide) (fun c1 => absurd c1 (by decide)) (fun c1 => ?_)
  refine lv_aload_n hx hb dJ0_isLatin1_aae02_6 rfl (lv_at hl 0 rfl) ?_
  refine vk_getf hx hb (hX.2.1.1 k hk).2.1 hS hown (hts _ wm_t1581) (fun _ h => h) dJ0_isLatin1_aae02_7 ?_
  refine lv_if_ne (tgt := 17) hx hb dJ0_isLatin1_aae02_10 (by decide) (fun c2 => absurd c2 (by decide)) (fun c2 => ?_)
  refine lv_iconst (v := 1) hx hb dJ0_isLatin1_aae02_13 (by decide) ?_
  refine lv_goto (tgt := 18) hx hb dJ0_isLatin1_aae02_14 (by decide) ?_
  subst hf
  exact r_zret C rfl hP hS dJ0_isLatin1_aae02_18
theorem z_fJ0_isLatin1_aae02 (k : Nat) : fJ0_isLatin1_aae02 k = 0 ∨ fJ0_isLatin1_aae02 k = 1 := by
  unfold fJ0_isLatin1_aae02
  repeat' split
  all_goals first | exact Or.inl rfl | exact Or.inr rfl
def fJ0_length_8abf5 (k : Nat) : Int32 :=
((nI (lenJS.getD k 0)) >>> (0 &&& 31))
set_option maxHeartbeats 4000000 in
theorem c_fJ0_length_8abf5 {E : Ev} {l : Launch} {k : Nat} (hk : fK k) (hj : jW true E) (σ : St) (sz : Nat) : Met l yJ0_length_8abf5 (Cond.code yJ0_length_8abf5 cJ0_length_8abf5 1 (some .int) :: gT) (rmD 2) (va_Pc [.ref (eK E k)] (preW true E σ sz)) (QI true E (fJ0_length_8abf5 k) σ sz) 0 0 (aW true E sz) := by
  refine r_entry (QI true E (fJ0_length_8abf5 k) σ) hj (by decide) [.ref (eK E k)] (Nat.le_of_ble_eq_true rfl) (fun p e s m args below meth c C => ?_)
  intro H locs ls hP hS hl
  have hl : lv_has ls 1 [(0, .ref (eK E k))] := hl
  obtain ⟨hx, hb, hr, hml, hown, hts, hlocks, hK, hX, hj⟩ := id C
  generalize hf : fJ0_length_8abf5 k = rr
  unfold fJ0_length_8abf5 at hf
  refine lv_aload_n hx hb dJ0_length_8abf5_0 rfl (lv_at hl 0 rfl) ?_
  refine vk_getf hx hb (hX.2.1.1 k hk).2.2.1 hS hown (hts _ wm_t1580) (fun _ h => h) dJ0_length_8abf5_1 ?_
  refine va_tlen hx hb (hX.2.1.1 k hk).2.2.2 hS (v := (nI (lenJS.getD k 0))) rfl dJ0_length_8abf5_4 ?_
  refine lv_aload_n hx hb dJ0_length_8abf5_5 rfl (lv_at hl 0 rfl) ?_
  refine r_cTi (r := 0) (n := 0) (As := []) (rest := [.int (nI (lenJS.getD k 0))]) C (c_fJ0_coder_7d493 hk hj σ H.size) (vk_recv hX.2.1 hk hS) gv_RJ0_335 (by decide +kernel) (rmD_le (by decide) (by decide)) rfl rfl (Nat.le_of_ble_eq_true rfl) dJ0_length_8abf5_6 hP hS hl.1 (fun H locs hP hS => ?_)
  refine lv_ishr hx hb dJ0_length_8abf5_9 ?_
  subst hf
  exact r_iret C hP hS dJ0_length_8abf5_10
def fJ3_checkIndex_8e157N_9 (x0 : Int32) (x1 : Int32) : Option Int32 :=
none
set_option maxHeartbeats 4000000 in
theorem b_fJ3_checkIndex_8e157N_9 {E : Ev} {l : Launch} {p : Program} {e : Env} {s : State} {m : MethodId} {args : Array Value} {below : List Frame} {meth : Method} {c : Code} (σ : St) (C : CX true E RJ3 cJ3_checkIndex_8e157 3 (some .int) p s m args meth c) {rr : Int32} : ∀  (x0 : Int32) (x1 : Int32), fJ3_checkIndex_8e157N_9 x0 x1 = some rr → GW true l (rmD 1) E 3 p e s m args below meth c (MQ below (QI true E rr σ s.heap.size) args s 0 0 (aW true E s.heap.size)) σ 9 [(0, .int x0), (1, .int x1), (2, .null)] [] := by
  intro x0 x1 hf H locs ls hP hS hl
  obtain ⟨hx, hb, hr, hml, hown, hts, hlocks, hK, hX, hj⟩ := id C
  unfold fJ3_checkIndex_8e157N_9 at hf
  cases hf
def fJ3_checkIndex_8e157N (a0 : Int32) (a1 : Int32) : Option Int32 :=
(if a0 < 0 then
fJ3_checkIndex_8e157N_9 a0 a1
else
(if a0 < a1 then
some a0
else
fJ3_checkIndex_8e157N_9 a0 a1))
set_option maxHeartbeats 4000000 in
theorem c_fJ3_checkIndex_8e157N {E : Ev} {l : Launch} (hj : jW true E) (σ : St) (sz : Nat) (a0 : Int32) (a1 : Int32) {rr : Int32} (hf : fJ3_checkIndex_8e157N a0 a1 = some rr) : Met l yJ3_checkIndex_8e157 (Cond.code yJ3_checkIndex_8e157 cJ3_checkIndex_8e157 3 (some .int) :: gT) (rmD 1) (va_Pc [.int a0, .int a1, .null] (preW true E σ sz)) (QI true E rr σ sz) 0 0 (aW true E sz) := by
  refine r_entry (QI true E rr σ) hj (by decide) [.int a0, .int a1, .null] (Nat.le_of_ble_eq_true rfl) (fun p e s m args below meth c C => ?_)
  intro H locs ls hP hS hl
  have hl : lv_has ls 3 [(0, .int a0), (1, .int a1), (2, .null)] := hl
  obtain ⟨hx, hb, hr, hml, hown, hts, hlocks, hK, hX, hj⟩ := id C
  unfold fJ3_checkIndex_8e157N at hf
  refine lv_iload_n hx hb dJ3_checkIndex_8e157_0 rfl (lv_at hl 0 rfl) ?_
  refine lv_if_lt (tgt := 9) hx hb dJ3_checkIndex_8e157_1 (by decide) (fun c1 => ?_) (fun c1 => ?_)
  · replace hf := it_t c1 hf
    exact b_fJ3_checkIndex_8e157N_9 σ C a0 a1 hf H locs ls hP hS (lv_sub hl [0, 1, 2] rfl)
  · replace hf := it_f c1 hf
    refine lv_iload_n hx hb dJ3_checkIndex_8e157_4 rfl (lv_at hl 0 rfl) ?_
    refine lv_iload_n hx hb dJ3_checkIndex_8e157_5 rfl (lv_at hl 1 rfl) ?_
    refine lv_icmp_lt (tgt := 16) hx hb dJ3_checkIndex_8e157_6 (by decide) (fun c2 => ?_) (fun c2 => ?_)
    · replace hf := it_t c2 hf
      refine lv_iload_n hx hb dJ3_checkIndex_8e157_16 rfl (lv_at hl 0 rfl) ?_
      cases hf
      exact r_iret C hP hS dJ3_checkIndex_8e157_17
    · replace hf := it_f c2 hf
      exact b_fJ3_checkIndex_8e157N_9 σ C a0 a1 hf H locs ls hP hS (lv_sub hl [0, 1, 2] rfl)
def fJ3_checkIndex_8e157R_9 (t : Nat) (x0 : Int32) (x1 : Int32) : Option Int32 :=
none
set_option maxHeartbeats 4000000 in
theorem b_fJ3_checkIndex_8e157R_9 {E : Ev} {l : Launch} {p : Program} {e : Env} {s : State} {m : MethodId} {args : Array Value} {below : List Frame} {meth : Method} {c : Code} {t : Nat} (ht : fT t) (σ : St) (C : CX true E RJ3 cJ3_checkIndex_8e157 3 (some .int) p s m args meth c) {rr : Int32} : ∀  (x0 : Int32) (x1 : Int32), fJ3_checkIndex_8e157R_9 t x0 x1 = some rr → GW true l (rmD 1) E 3 p e s m args below meth c (MQ below (QI true E rr σ s.heap.size) args s 0 0 (aW true E s.heap.size)) σ 9 [(0, .int x0), (1, .int x1), (2, .ref t)] [] := by
  intro x0 x1 hf H locs ls hP hS hl
  obtain ⟨hx, hb, hr, hml, hown, hts, hlocks, hK, hX, hj⟩ := id C
  unfold fJ3_checkIndex_8e157R_9 at hf
  cases hf
def fJ3_checkIndex_8e157R (t : Nat) (a0 : Int32) (a1 : Int32) : Option Int32 :=
(if a0 < 0 then
fJ3_checkIndex_8e157R_9 t a0 a1
else
(if a0 < a1 then
some a0
else
fJ3_checkIndex_8e157R_9 t a0 a1))
set_option maxHeartbeats 4000000 in
theorem c_fJ3_checkIndex_8e157R {E : Ev} {l : Launch} {t : Nat} (ht : fT t) (hj : jW true E) (σ : St) (sz : Nat) (a0 : Int32) (a1 : Int32) {rr : Int32} (hf : fJ3_checkIndex_8e157R t a0 a1 = some rr) : Met l yJ3_checkIndex_8e157 (Cond.code yJ3_checkIndex_8e157 cJ3_checkIndex_8e157 3 (some .int) :: gT) (rmD 1) (va_Pc [.int a0, .int a1, .ref t] (preW true E σ sz)) (QI true E rr σ sz) 0 0 (aW true E sz) := by
  refine r_entry (QI true E rr σ) hj (by decide) [.int a0, .int a1, .ref t] (Nat.le_of_ble_eq_true rfl) (fun p e s m args below meth c C => ?_)
  intro H locs ls hP hS hl
  have hl : lv_has ls 3 [(0, .int a0), (1, .int a1), (2, .ref t)] := hl
  obtain ⟨hx, hb, hr, hml, hown, hts, hlocks, hK, hX, hj⟩ := id C
  unfold fJ3_checkIndex_8e157R at hf
  refine lv_iload_n hx hb dJ3_checkIndex_8e157_0 rfl (lv_at hl 0 rfl) ?_
  refine lv_if_lt (tgt := 9) hx hb dJ3_checkIndex_8e157_1 (by decide) (fun c1 => ?_) (fun c1 => ?_)
  · replace hf := it_t c1 hf
    exact b_fJ3_checkIndex_8e157R_9 ht σ C a0 a1 hf H locs ls hP hS (lv_sub hl [0, 1, 2] rfl)
  · replace hf := it_f c1 hf
    refine lv_iload_n hx hb dJ3_checkIndex_8e157_4 rfl (lv_at hl 0 rfl) ?_
    refine lv_iload_n hx hb dJ3_checkIndex_8e157_5 rfl (lv_at hl 1 rfl) ?_
    refine lv_icmp_lt (tgt := 16) hx hb dJ3_checkIndex_8e157_6 (by decide) (fun c2 => ?_) (fun c2 => ?_)
    · replace hf := it_t c2 hf
      refine lv_iload_n hx hb dJ3_checkIndex_8e157_16 rfl (lv_at hl 0 rfl) ?_
      cases hf
      exact r_iret C hP hS dJ3_checkIndex_8e157_17
    · replace hf := it_f c2 hf
      exact b_fJ3_checkIndex_8e157R_9 ht σ C a0 a1 hf H locs ls hP hS (lv_sub hl [0, 1, 2] rfl)
def fJ0_checkIndex_df160 (a0 a1 : Int32) : Option Unit := cq (fJ3_checkIndex_8e157N a0 a1) fun _ => some ()
set_option maxHeartbeats 4000000 in
theorem c_fJ0_checkIndex_df160 {E : Ev} {l : Launch} (hj : jW true E) (σ : St) (sz : Nat) (a0 : Int32) (a1 : Int32) (hf : fJ0_checkIndex_df160 a0 a1 = some ()) : Met l yJ0_checkIndex_df160 (Cond.code yJ0_checkIndex_df160 cJ0_checkIndex_df160 2 none :: gT) (rmD 2) (va_Pc [.int a0, .int a1] (preW true E σ sz)) (QV true E σ sz) 0 0 (aW true E sz) := by
  refine r_entry (QV true E σ) hj (by decide) [.int a0, .int a1] (Nat.le_of_ble_eq_true rfl) (fun p e s m args below meth c C => ?_)
  intro H locs ls hP hS hl
  have hl : lv_has ls 2 [(0, .int a0), (1, .int a1)] := hl
  obtain ⟨hx, hb, hr, hml, hown, hts, hlocks, hK, hX, hj⟩ := id C
  unfold fJ0_checkIndex_df160 at hf
  obtain ⟨r1, hc1, hf⟩ := cq_e hf
  refine lv_iload_n hx hb dJ0_checkIndex_df160_0 rfl (lv_at hl 0 rfl) ?_
  refine lv_iload_n hx hb dJ0_checkIndex_df160_1 rfl (lv_at hl 1 rfl) ?_
  rcases hX.2.2.2.2 with hz | ⟨t, hz⟩
  · refine va_gets hx hb hz hS hown (hts _ wm_t459) (fun _ h => h) dJ0_checkIndex_df160_2 ?_
    refine r_cSi (n := 3) (As := [.int a0, .int a1, .null]) (rest := []) C (c_fJ3_checkIndex_8e157N hj σ H.size a0 a1 hc1) gs_RJ0_1059 (by decide +kernel) (rmD_le (by decide) (by decide)) rfl rfl (Nat.le_of_ble_eq_true rfl) dJ0_checkIndex_df160_5 hP hS hl.1 (fun H locs hP hS => ?_)
    refine lv_pop hx hb dJ0_checkIndex_df160_8 rfl ?_
    exact r_vret C hP hS dJ0_checkIndex_df160_9
  · refine va_gets hx hb hz hS hown (hts _ wm_t459) (fun _ h => h) dJ0_checkIndex_df160_2 ?_
    refine r_cSi (n := 3) (As := [.int a0, .int a1, .ref t]) (rest := []) C (c_fJ3_checkIndex_8e157R (t := t) trivial hj σ H.size a0 a1 hc1) gs_RJ0_1059 (by decide +kernel) (rmD_le (by decide) (by decide)) rfl rfl (Nat.le_of_ble_eq_true rfl) dJ0_checkIndex_df160_5 hP hS hl.1 (fun H locs hP hS => ?_)
    refine lv_pop hx hb dJ0_checkIndex_df160_8 rfl ?_
    exact r_vret C hP hS dJ0_checkIndex_df160_9
def fJ1_charAt_3b067 (k : Nat) (a1 : Int32) : Option Int32 :=
(cu (fJ0_checkIndex_df160 a1 (nI (lenJS.getD k 0))) (
(rdK (lenJS.getD k 0) (fun j => (bytJS.getD k []).getD j 0) a1 fun v2 =>
some ((((v2 &&& 255) : Int32).toUInt32 % 65536).toInt32))))
set_option maxHeartbeats 4000000 in
theorem c_fJ1_charAt_3b067 {E : Ev} {l : Launch} {k : Nat} (hk : fK k) (hj : jW true E) (σ : St) (sz : Nat) (a1 : Int32) {rr : Int32} (hf : fJ1_charAt_3b067 k a1 = some rr) : Met l yJ1_charAt_3b067 (Cond.code yJ1_charAt_3b067 cJ1_charAt_3b067 2 (some .char) :: gT) (rmD 3) (va_Pc [.ref (eV E k), .int a1] (preW true E σ sz)) (QI true E rr σ sz) 0 0 (aW true E sz) := by
  refine r_entry (QI true E rr σ) hj (by decide) [.ref (eV E k), .int a1] (Nat.le_of_ble_eq_true rfl) (fun p e s m args below meth c C => ?_)
  intro H locs ls hP hS hl
  have hl : lv_has ls 2 [(0, .ref (eV E k)), (1, .int a1)] := hl
  obtain ⟨hx, hb, hr, hml, hown, hts, hlocks, hK, hX, hj⟩ := id C
  unfold fJ1_charAt_3b067 at hf
  refine lv_iload_n hx hb dJ1_charAt_3b067_0 rfl (lv_at hl 1 rfl) ?_
  refine lv_aload_n hx hb dJ1_charAt_3b067_1 rfl (lv_at hl 0 rfl) ?_
  refine va_tlen hx hb (hX.2.1.1 k hk).2.2.2 hS (v := (nI (lenJS.getD k 0))) rfl dJ1_charAt_3b067_2 ?_
  obtain ⟨hc1, hf⟩ := cu_e hf
  refine r_cSv (n := 2) (As := [.int a1, .int (nI (lenJS.getD k 0))]) (rest := []) C (c_fJ0_checkIndex_df160 hj σ H.size a1 (nI (lenJS.getD k 0)) hc1) gs_RJ1_9 (by decide +kernel) (rmD_le (by decide) (by decide)) rfl rfl (Nat.le_of_ble_eq_true rfl) dJ1_charAt_3b067_3 hP hS hl.1 (fun H locs hP hS => ?_)
  refine lv_aload_n hx hb dJ1_charAt_3b067_6 rfl (lv_at hl 0 rfl) ?_
  refine lv_iload_n hx hb dJ1_charAt_3b067_7 rfl (lv_at hl 1 rfl) ?_
  have h3 := (rdK_e hf).1
  refine va_tb hx hb (hX.2.1.1 k hk).2.2.2 hS h3 rfl dJ1_charAt_3b067_8 ?_
  refine lv_topi (fun v2 ev2 => ?_)
  replace hf := rdK_n ev2 hf
  refine lv_sipush (v := 255) hx hb dJ1_charAt_3b067_9 (by decide) ?_
  refine lv_iand hx hb dJ1_charAt_3b067_12 ?_
  refine lv_i2c (v := (((v2 &&& 255) : Int32).toUInt32 % 65536).toInt32) hx hb dJ1_charAt_3b067_13 rfl ?_
  cases hf
  exact r_zret C (pk_nc _) hP hS dJ1_charAt_3b067_14
def fJ0_charAt_5068e (k : Nat) (a0 : Int32) : Option Int32 :=
(cq (fJ1_charAt_3b067 k a0) fun r2 =>
(zc r2 (some r2)))
set_option maxHeartbeats 4000000 in
theorem c_fJ0_charAt_5068e {E : Ev} {l : Launch} {k : Nat} (hk : fK k) (hj : jW true E) (σ : St) (sz : Nat) (a0 : Int32) {rr : Int32} (hf : fJ0_charAt_5068e k a0 = some rr) : Met l yJ0_charAt_5068e (Cond.code yJ0_charAt_5068e cJ0_charAt_5068e 2 (some .char) :: gT) (rmD 4) (va_Pc [.ref (eK E k), .int a0] (preW true E σ sz)) (QI true E rr σ sz) 0 0 (aW true E sz) := by
  refine r_entry (QI true E rr σ) hj (by decide) [.ref (eK E k), .int a0] (Nat.le_of_ble_eq_true rfl) (fun p e s m args below meth c C => ?_)
  intro H locs ls hP hS hl
  have hl : lv_has ls 2 [(0, .ref (eK E k)), (1, .int a0)] := hl
  obtain ⟨hx, hb, hr, hml, hown, hts, hlocks, hK, hX, hj⟩ := id C
  unfold fJ0_charAt_5068e at hf
  refine lv_aload_n hx hb dJ0_charAt_5068e_0 rfl (lv_at hl 0 rfl) ?_
  refine r_cTi (r := 1) (n := 0) (As := []) (rest := []) C (c_fJ0_isLatin1_aae02 hk hj σ H.size) (vk_recv hX.2.1 hk hS) gv_RJ0_492 (by decide +kernel) (rmD_le (by decide) (by decide)) rfl rfl (Nat.le_of_ble_eq_true rfl) dJ0_charAt_5068e_1 hP hS hl.1 (fun H locs hP hS => ?_)
  refine lv_if_eq (tgt := 16) hx hb dJ0_charAt_5068e_4 (by decide) (fun c1 => absurd c1 (by decide)) (fun c1 => ?_)
  refine lv_aload_n hx hb dJ0_charAt_5068e_7 rfl (lv_at hl 0 rfl) ?_
  refine vk_getf hx hb (hX.2.1.1 k hk).2.2.1 hS hown (hts _ wm_t1580) (fun _ h => h) dJ0_charAt_5068e_8 ?_
  refine lv_iload_n hx hb dJ0_charAt_5068e_11 rfl (lv_at hl 1 rfl) ?_
  obtain ⟨r2, hc3, hf⟩ := cq_e hf
  refine r_cSi (n := 2) (As := [.ref (eV E k), .int a0]) (rest := []) C (c_fJ1_charAt_3b067 hk hj σ H.size a0 hc3) gs_RJ0_495 (by decide +kernel) (rmD_le (by decide) (by decide)) rfl rfl (Nat.le_of_ble_eq_true rfl) dJ0_charAt_5068e_12 hP hS hl.1 (fun H locs hP hS => ?_)
  obtain ⟨hz, hf⟩ := zc_e hf
  cases hf
  exact r_zret C hz hP hS dJ0_charAt_5068e_15
def fJ1_canEncode_9a6ad (a0 : Int32) : Int32 :=
(if a0 < 0 then
0
else
(if 255 < a0 then
0
else
1))
set_option maxHeartbeats 4000000 in
theorem c_fJ1_canEncode_9a6ad {E : Ev} {l : Launch} (hj : jW true E) (σ : St) (sz : Nat) (a0 : Int32) : Met l yJ1_canEncode_9a6ad (Cond.code yJ1_canEncode_9a6ad cJ1_canEncode_9a6ad 1 (some .boolean) :: gT) (rmD 1) (va_Pc [.int a0] (preW true E σ sz)) (QI true E (fJ1_canEncode_9a6ad a0) σ sz) 0 0 (aW true E sz) := by
  refine r_entry (QI true E (fJ1_canEncode_9a6ad a0) σ) hj (by decide) [.int a0] (Nat.le_of_ble_eq_true rfl) (fun p e s m args below meth c C => ?_)
  intro H locs ls hP hS hl
  have hl : lv_has ls 1 [(0, .int a0)] := hl
  obtain ⟨hx, hb, hr, hml, hown, hts, hlocks, hK, hX, hj⟩ := id C
  generalize hf : fJ1_canEncode_9a6ad a0 = rr
  unfold fJ1_canEncode_9a6ad at hf
  refine lv_iload_n hx hb dJ1_canEncode_9a6ad_0 rfl (lv_at hl 0 rfl) ?_
  refine lv_if_lt (tgt := 15) hx hb dJ1_canEncode_9a6ad_1 (by decide) (fun c1 => ?_) (fun c1 => ?_)
  · replace hf := it_t c1 hf
    refine lv_iconst (v := 0) hx hb dJ1_canEncode_9a6ad_15 (by decide) ?_
    subst hf
    exact r_zret C rfl hP hS dJ1_canEncode_9a6ad_16
  · replace hf := it_f c1 hf
    refine lv_iload_n hx hb dJ1_canEncode_9a6ad_4 rfl (lv_at hl 0 rfl) ?_
    refine lv_sipush (v := 255) hx hb dJ1_canEncode_9a6ad_5 (by decide) ?_
    refine lv_icmp_gt (tgt := 15) hx hb dJ1_canEncode_9a6ad_8 (by decide) (fun c2 => ?_) (fun c2 => ?_)
    · replace hf := it_t c2 hf
      refine lv_iconst (v := 0) hx hb dJ1_canEncode_9a6ad_15 (by decide) ?_
      subst hf
      exact r_zret C rfl hP hS dJ1_canEncode_9a6ad_16
    · replace hf := it_f c2 hf
      refine lv_iconst (v := 1) hx hb dJ1_canEncode_9a6ad_11 (by decide) ?_
      refine lv_goto (tgt := 16) hx hb dJ1_canEncode_9a6ad_12 (by decide) ?_
      subst hf
      exact r_zret C rfl hP hS dJ1_canEncode_9a6ad_16
theorem z_fJ1_canEncode_9a6ad (a0 : Int32) : fJ1_canEncode_9a6ad a0 = 0 ∨ fJ1_canEncode_9a6ad a0 = 1 := by
  unfold fJ1_canEncode_9a6ad
  repeat' split
  all_goals first | exact Or.inl rfl | exact Or.inr rfl
def fJ1_indexOfChar_4cfef_7B (k : Nat) (rec7 : Int32 → Int32 → Int32 → Option Int32) (x3 : Int32) (x4 : Int32) (x5 : Int32) : Option Int32 :=
(if x3 ≤ x5 then
some (-1)
else
(rdK (lenJS.getD k 0) (fun j => (bytJS.getD k []).getD j 0) x5 fun v2 =>
(if v2 = x4 then
some x5
else
rec7 x3 x4 (x5 + 1))))
set_option maxHeartbeats 4000000 in
theorem b_fJ1_indexOfChar_4cfef_7B {E : Ev} {l : Launch} {p : Program} {e : Env} {s : State} {m : MethodId} {args : Array Value} {below : List Frame} {meth : Method} {c : Code} {k : Nat} (hk : fK k) (σ : St) (C : CX true E RJ1 cJ1_indexOfChar_4cfef 6 (some .int) p s m args meth c) {rr : Int32} (rec7 : Int32 → Int32 → Int32 → Option Int32) (hr7 : ∀  (x3 : Int32) (x4 : Int32) (x5 : Int32), rec7 x3 x4 x5 = some rr → GW true l (rmD 1) E 6 p e s m args below meth c (MQ below (QI true E rr σ s.heap.size) args s 0 0 (aW true E s.heap.size)) σ 7 [(0, .ref (eV E k)), (3, .int x3), (4, .int x4), (5, .int x5)] []) : ∀  (x3 : Int32) (x4 : Int32) (x5 : Int32), fJ1_indexOfChar_4cfef_7B k rec7 x3 x4 x5 = some rr → GW true l (rmD 1) E 6 p e s m args below meth c (MQ below (QI true E rr σ s.heap.size) args s 0 0 (aW true E s.heap.size)) σ 7 [(0, .ref (eV E k)), (3, .int x3), (4, .int x4), (5, .int x5)] [] := by
  intro x3 x4 x5 hf H locs ls hP hS hl
  obtain ⟨hx, hb, hr, hml, hown, hts, hlocks, hK, hX, hj⟩ := id C
  unfold fJ1_indexOfChar_4cfef_7B at hf
  refine lv_iload hx hb dJ1_indexOfChar_4cfef_7 (lv_at hl 3 rfl) ?_
  refine lv_iload_n hx hb dJ1_indexOfChar_4cfef_9 rfl (lv_at hl 1 rfl) ?_
  refine lv_icmp_ge (tgt := 31) hx hb dJ1_indexOfChar_4cfef_10 (by decide) (fun c1 => ?_) (fun c1 => ?_)
  · replace hf := it_t c1 hf
    refine lv_iconst (v := (-1)) hx hb dJ1_indexOfChar_4cfef_31 (by decide) ?_
    cases hf
    exact r_iret C hP hS dJ1_indexOfChar_4cfef_32
  · replace hf := it_f c1 hf
    refine lv_aload_n hx hb dJ1_indexOfChar_4cfef_13 rfl (lv_at hl 0 rfl) ?_
    refine lv_iload hx hb dJ1_indexOfChar_4cfef_14 (lv_at hl 3 rfl) ?_
    have h3 := (rdK_e hf).1
    refine va_tb hx hb (hX.2.1.1 k hk).2.2.2 hS h3 rfl dJ1_indexOfChar_4cfef_16 ?_
    refine lv_topi (fun v2 ev2 => ?_)
    replace hf := rdK_n ev2 hf
    refine lv_iload hx hb dJ1_indexOfChar_4cfef_17 (lv_at hl 2 rfl) ?_
    refine lv_icmp_ne (tgt := 25) hx hb dJ1_indexOfChar_4cfef_19 (by decide) (fun c4 => ?_) (fun c4 => ?_)
    · replace hf := it_f c4 hf
      refine lv_iinc (v := (x5 + 1)) (lv' := [(5, .int (x5 + 1)), (0, .ref (eV E k)), (3, .int x3), (4, .int x4)]) hx hb dJ1_indexOfChar_4cfef_25 hl (k := 3) rfl rfl (by decide) rfl (fun ls hl => ?_)
      refine lv_goto (tgt := 7) hx hb dJ1_indexOfChar_4cfef_28 (by decide) ?_
      exact hr7 x3 x4 (x5 + 1) hf H locs ls hP hS (lv_sub hl [1, 2, 3, 0] rfl)
    · replace hf := it_t c4 hf
      refine lv_iload hx hb dJ1_indexOfChar_4cfef_22 (lv_at hl 3 rfl) ?_
      cases hf
      exact r_iret C hP hS dJ1_indexOfChar_4cfef_24
def fJ1_indexOfChar_4cfef_7 (k : Nat) : Nat → Int32 → Int32 → Int32 → Option Int32
  | 0 => fun _ _ _ => none
  | n + 1 => fun x3 x4 x5 => fJ1_indexOfChar_4cfef_7B k (fJ1_indexOfChar_4cfef_7 k n) x3 x4 x5
theorem b_fJ1_indexOfChar_4cfef_7 {E : Ev} {l : Launch} {p : Program} {e : Env} {s : State} {m : MethodId} {args : Array Value} {below : List Frame} {meth : Method} {c : Code} {k : Nat} (hk : fK k) (σ : St) (C : CX true E RJ1 cJ1_indexOfChar_4cfef 6 (some .int) p s m args meth c) {rr : Int32} : ∀ (n : Nat) (x3 : Int32) (x4 : Int32) (x5 : Int32), fJ1_indexOfChar_4cfef_7 k n x3 x4 x5 = some rr → GW true l (rmD 1) E 6 p e s m args below meth c (MQ below (QI true E rr σ s.heap.size) args s 0 0 (aW true E s.heap.size)) σ 7 [(0, .ref (eV E k)), (3, .int x3), (4, .int x4), (5, .int x5)] [] := by
  intro n
  induction n with
  | zero => intro x3 x4 x5 hf; have hf : (none : Option _) = some _ := hf; cases hf
  | succ n ih => intro x3 x4 x5 hf; exact b_fJ1_indexOfChar_4cfef_7B hk σ C (fJ1_indexOfChar_4cfef_7 k n) ih x3 x4 x5 hf
def fJ1_indexOfChar_4cfef (k : Nat) (a1 : Int32) (a2 : Int32) (a3 : Int32) : Option Int32 :=
fJ1_indexOfChar_4cfef_7 k FU a3 ((a1 : Int32).toInt8.toInt32) a2
set_option maxHeartbeats 4000000 in
theorem c_fJ1_indexOfChar_4cfef {E : Ev} {l : Launch} {k : Nat} (hk : fK k) (hj : jW true E) (σ : St) (sz : Nat) (a1 : Int32) (a2 : Int32) (a3 : Int32) {rr : Int32} (hf : fJ1_indexOfChar_4cfef k a1 a2 a3 = some rr) : Met l yJ1_indexOfChar_4cfef (Cond.code yJ1_indexOfChar_4cfef cJ1_indexOfChar_4cfef 6 (some .int) :: gT) (rmD 1) (va_Pc [.ref (eV E k), .int a1, .int a2, .int a3] (preW true E σ sz)) (QI true E rr σ sz) 0 0 (aW true E sz) := by
  refine r_entry (QI true E rr σ) hj (by decide) [.ref (eV E k), .int a1, .int a2, .int a3] (Nat.le_of_ble_eq_true rfl) (fun p e s m args below meth c C => ?_)
  intro H locs ls hP hS hl
  have hl : lv_has ls 6 [(0, .ref (eV E k)), (1, .int a1), (2, .int a2), (3, .int a3)] := hl
  obtain ⟨hx, hb, hr, hml, hown, hts, hlocks, hK, hX, hj⟩ := id C
  unfold fJ1_indexOfChar_4cfef at hf
  refine lv_iload_n hx hb dJ1_indexOfChar_4cfef_0 rfl (lv_at hl 1 rfl) ?_
  refine lv_i2b (v := (a1 : Int32).toInt8.toInt32) hx hb dJ1_indexOfChar_4cfef_1 rfl ?_
  refine lv_istore (lv' := [(4, .int ((a1 : Int32).toInt8.toInt32)), (0, .ref (eV E k)), (1, .int a1), (2, .int a2), (3, .int a3)]) hx hb dJ1_indexOfChar_4cfef_2 hl (by decide) rfl (fun ls hl => ?_)
  refine lv_iload_n hx hb dJ1_indexOfChar_4cfef_4 rfl (lv_at hl 3 rfl) ?_
  refine lv_istore (lv' := [(5, .int a2), (4, .int ((a1 : Int32).toInt8.toInt32)), (0, .ref (eV E k)), (1, .int a1), (2, .int a2), (3, .int a3)]) hx hb dJ1_indexOfChar_4cfef_5 hl (by decide) rfl (fun ls hl => ?_)
  exact b_fJ1_indexOfChar_4cfef_7 hk σ C FU a3 ((a1 : Int32).toInt8.toInt32) a2 hf H locs ls hP hS (lv_sub hl [2, 5, 1, 0] rfl)
def fJ1_indexOf_4cfef (k : Nat) (a1 : Int32) (a2 : Int32) (a3 : Int32) : Option Int32 :=
(if (fJ1_canEncode_9a6ad a1) = 0 then
some (-1)
else
(nm (if (nI (lenJS.getD k 0)) < a3 then (nI (lenJS.getD k 0)) else a3) fun v2 =>
(if (if a2 < 0 then 0 else a2) < v2 then
(cq (fJ1_indexOfChar_4cfef k a1 (if a2 < 0 then 0 else a2) v2) fun r4 =>
some r4)
else
some (-1))))
set_option maxHeartbeats 4000000 in
theorem c_fJ1_indexOf_4cfef {E : Ev} {l : Launch} {k : Nat} (hk : fK k) (hj : jW true E) (σ : St) (sz : Nat) (a1 : Int32) (a2 : Int32) (a3 : Int32) {rr : Int32} (hf : fJ1_indexOf_4cfef k a1 a2 a3 = some rr) : Met l yJ1_indexOf_4cfef (Cond.code yJ1_indexOf_4cfef cJ1_indexOf_4cfef 4 (some .int) :: gT) (rmD 2) (va_Pc [.ref (eV E k), .int a1, .int a2, .int a3] (preW true E σ sz)) (QI true E rr σ sz) 0 0 (aW true E sz) := by
  refine r_entry (QI true E rr σ) hj (by decide) [.ref (eV E k), .int a1, .int a2, .int a3] (Nat.le_of_ble_eq_true rfl) (fun p e s m args below meth c C => ?_)
  intro H locs ls hP hS hl
  have hl : lv_has ls 4 [(0, .ref (eV E k)), (1, .int a1), (2, .int a2), (3, .int a3)] := hl
  obtain ⟨hx, hb, hr, hml, hown, hts, hlocks, hK, hX, hj⟩ := id C
  unfold fJ1_indexOf_4cfef at hf
  refine lv_iload_n hx hb dJ1_indexOf_4cfef_0 rfl (lv_at hl 1 rfl) ?_
  refine r_cSi (n := 1) (As := [.int a1]) (rest := []) C (c_fJ1_canEncode_9a6ad hj σ H.size a1) gs_RJ1_88 (by decide +kernel) (rmD_le (by decide) (by decide)) rfl rfl (Nat.le_of_ble_eq_true rfl) dJ1_indexOf_4cfef_1 hP hS hl.1 (fun H locs hP hS => ?_)
  refine lv_if_ne (tgt := 9) hx hb dJ1_indexOf_4cfef_4 (by decide) (fun c1 => ?_) (fun c1 => ?_)
  · replace hf := it_f c1 hf
    refine lv_iload_n hx hb dJ1_indexOf_4cfef_9 rfl (lv_at hl 2 rfl) ?_
    refine lv_iconst (v := 0) hx hb dJ1_indexOf_4cfef_10 (by decide) ?_
    refine va_mmax hx hb (hml.trans hl.1.symm) hown (hts _ wm_t503) (hts _ wm_t50) (hts _ wm_t4) (hts _ wm_t51) (by decide) (Nat.le_of_ble_eq_true rfl) (Nat.zero_le _) (Nat.zero_le _) dJ1_indexOf_4cfef_11 ?_
    refine lv_istore_n (lv' := [(2, .int (if a2 < 0 then 0 else a2)), (0, .ref (eV E k)), (1, .int a1), (3, .int a3)]) hx hb dJ1_indexOf_4cfef_14 rfl hl (by decide) rfl (fun ls hl => ?_)
    refine lv_iload_n hx hb dJ1_indexOf_4cfef_15 rfl (lv_at hl 3 rfl) ?_
    refine lv_aload_n hx hb dJ1_indexOf_4cfef_16 rfl (lv_at hl 1 rfl) ?_
    refine va_tlen hx hb (hX.2.1.1 k hk).2.2.2 hS (v := (nI (lenJS.getD k 0))) rfl dJ1_indexOf_4cfef_17 ?_
    refine va_mmin hx hb (hml.trans hl.1.symm) hown (hts _ wm_t504) (hts _ wm_t505) (hts _ wm_t4) (hts _ wm_t506) (by decide) (Nat.le_of_ble_eq_true rfl) (Nat.zero_le _) (Nat.zero_le _) dJ1_indexOf_4cfef_18 ?_
    refine lv_topi (fun v2 ev2 => ?_)
    replace hf := nm_i ev2 hf
    refine lv_istore_n (lv' := [(3, .int v2), (2, .int (if a2 < 0 then 0 else a2)), (0, .ref (eV E k)), (1, .int a1)]) hx hb dJ1_indexOf_4cfef_21 rfl hl (by decide) rfl (fun ls hl => ?_)
    refine lv_iload_n hx hb dJ1_indexOf_4cfef_22 rfl (lv_at hl 1 rfl) ?_
    refine lv_iload_n hx hb dJ1_indexOf_4cfef_23 rfl (lv_at hl 0 rfl) ?_
    refine lv_icmp_lt (tgt := 29) hx hb dJ1_indexOf_4cfef_24 (by decide) (fun c3 => ?_) (fun c3 => ?_)
    · replace hf := it_t c3 hf
      refine lv_aload_n hx hb dJ1_indexOf_4cfef_29 rfl (lv_at hl 2 rfl) ?_
      refine lv_iload_n hx hb dJ1_indexOf_4cfef_30 rfl (lv_at hl 3 rfl) ?_
      refine lv_iload_n hx hb dJ1_indexOf_4cfef_31 rfl (lv_at hl 1 rfl) ?_
      refine lv_iload_n hx hb dJ1_indexOf_4cfef_32 rfl (lv_at hl 0 rfl) ?_
      obtain ⟨r4, hc5, hf⟩ := cq_e hf
      refine r_cSi (n := 4) (As := [.ref (eV E k), .int a1, .int (if a2 < 0 then 0 else a2), .int v2]) (rest := []) C (c_fJ1_indexOfChar_4cfef hk hj σ H.size a1 (if a2 < 0 then 0 else a2) v2 hc5) gs_RJ1_95 (by decide +kernel) (rmD_le (by decide) (by decide)) rfl rfl (Nat.le_of_ble_eq_true rfl) dJ1_indexOf_4cfef_33 hP hS hl.1 (fun H locs hP hS => ?_)
      cases hf
      exact r_iret C hP hS dJ1_indexOf_4cfef_36
    · replace hf := it_f c3 hf
      refine lv_iconst (v := (-1)) hx hb dJ1_indexOf_4cfef_27 (by decide) ?_
      cases hf
      exact r_iret C hP hS dJ1_indexOf_4cfef_28
  · replace hf := it_t c1 hf
    refine lv_iconst (v := (-1)) hx hb dJ1_indexOf_4cfef_7 (by decide) ?_
    cases hf
    exact r_iret C hP hS dJ1_indexOf_4cfef_8
def fJ0_indexOf_7cf53 (k : Nat) (a0 : Int32) (a1 : Int32) : Option Int32 :=
(cq (fJ1_indexOf_4cfef k a0 a1 (fJ0_length_8abf5 k)) fun r2 =>
some r2)
set_option maxHeartbeats 4000000 in
theorem c_fJ0_indexOf_7cf53 {E : Ev} {l : Launch} {k : Nat} (hk : fK k) (hj : jW true E) (σ : St) (sz : Nat) (a0 : Int32) (a1 : Int32) {rr : Int32} (hf : fJ0_indexOf_7cf53 k a0 a1 = some rr) : Met l yJ0_indexOf_7cf53 (Cond.code yJ0_indexOf_7cf53 cJ0_indexOf_7cf53 3 (some .int) :: gT) (rmD 3) (va_Pc [.ref (eK E k), .int a0, .int a1] (preW true E σ sz)) (QI true E rr σ sz) 0 0 (aW true E sz) := by
  refine r_entry (QI true E rr σ) hj (by decide) [.ref (eK E k), .int a0, .int a1] (Nat.le_of_ble_eq_true rfl) (fun p e s m args below meth c C => ?_)
  intro H locs ls hP hS hl
  have hl : lv_has ls 3 [(0, .ref (eK E k)), (1, .int a0), (2, .int a1)] := hl
  obtain ⟨hx, hb, hr, hml, hown, hts, hlocks, hK, hX, hj⟩ := id C
  unfold fJ0_indexOf_7cf53 at hf
  refine lv_aload_n hx hb dJ0_indexOf_7cf53_0 rfl (lv_at hl 0 rfl) ?_
  refine r_cTi (r := 1) (n := 0) (As := []) (rest := []) C (c_fJ0_isLatin1_aae02 hk hj σ H.size) (vk_recv hX.2.1 hk hS) gv_RJ0_492 (by decide +kernel) (rmD_le (by decide) (by decide)) rfl rfl (Nat.le_of_ble_eq_true rfl) dJ0_indexOf_7cf53_1 hP hS hl.1 (fun H locs hP hS => ?_)
  refine lv_if_eq (tgt := 23) hx hb dJ0_indexOf_7cf53_4 (by decide) (fun c1 => absurd c1 (by decide)) (fun c1 => ?_)
  refine lv_aload_n hx hb dJ0_indexOf_7cf53_7 rfl (lv_at hl 0 rfl) ?_
  refine vk_getf hx hb (hX.2.1.1 k hk).2.2.1 hS hown (hts _ wm_t1580) (fun _ h => h) dJ0_indexOf_7cf53_8 ?_
  refine lv_iload_n hx hb dJ0_indexOf_7cf53_11 rfl (lv_at hl 1 rfl) ?_
  refine lv_iload_n hx hb dJ0_indexOf_7cf53_12 rfl (lv_at hl 2 rfl) ?_
  refine lv_aload_n hx hb dJ0_indexOf_7cf53_13 rfl (lv_at hl 0 rfl) ?_
  refine r_cTi (n := 0) (As := []) (rest := [.int a1, .int a0, .ref (eV E k)]) C (c_fJ0_length_8abf5 hk hj σ H.size) (vk_recv hX.2.1 hk hS) gv_RJ0_505 (by decide +kernel) (rmD_le (by decide) (by decide)) rfl rfl (Nat.le_of_ble_eq_true rfl) dJ0_indexOf_7cf53_14 hP hS hl.1 (fun H locs hP hS => ?_)
  obtain ⟨r2, hc3, hf⟩ := cq_e hf
  refine r_cSi (n := 4) (As := [.ref (eV E k), .int a0, .int a1, .int (fJ0_length_8abf5 k)]) (rest := []) C (c_fJ1_indexOf_4cfef hk hj σ H.size a0 a1 (fJ0_length_8abf5 k) hc3) gs_RJ0_637 (by decide +kernel) (rmD_le (by decide) (by decide)) rfl rfl (Nat.le_of_ble_eq_true rfl) dJ0_indexOf_7cf53_17 hP hS hl.1 (fun H locs hP hS => ?_)
  refine lv_goto (tgt := 36) hx hb dJ0_indexOf_7cf53_20 (by decide) ?_
  cases hf
  exact r_iret C hP hS dJ0_indexOf_7cf53_36
def fJ0_indexOf_0f7a4 (k : Nat) (a0 : Int32) : Option Int32 :=
(cq (fJ0_indexOf_7cf53 k a0 0) fun r1 =>
some r1)
set_option maxHeartbeats 4000000 in
theorem c_fJ0_indexOf_0f7a4 {E : Ev} {l : Launch} {k : Nat} (hk : fK k) (hj : jW true E) (σ : St) (sz : Nat) (a0 : Int32) {rr : Int32} (hf : fJ0_indexOf_0f7a4 k a0 = some rr) : Met l yJ0_indexOf_0f7a4 (Cond.code yJ0_indexOf_0f7a4 cJ0_indexOf_0f7a4 2 (some .int) :: gT) (rmD 4) (va_Pc [.ref (eK E k), .int a0] (preW true E σ sz)) (QI true E rr σ sz) 0 0 (aW true E sz) := by
  refine r_entry (QI true E rr σ) hj (by decide) [.ref (eK E k), .int a0] (Nat.le_of_ble_eq_true rfl) (fun p e s m args below meth c C => ?_)
  intro H locs ls hP hS hl
  have hl : lv_has ls 2 [(0, .ref (eK E k)), (1, .int a0)] := hl
  obtain ⟨hx, hb, hr, hml, hown, hts, hlocks, hK, hX, hj⟩ := id C
  unfold fJ0_indexOf_0f7a4 at hf
  refine lv_aload_n hx hb dJ0_indexOf_0f7a4_0 rfl (lv_at hl 0 rfl) ?_
  refine lv_iload_n hx hb dJ0_indexOf_0f7a4_1 rfl (lv_at hl 1 rfl) ?_
  refine lv_iconst (v := 0) hx hb dJ0_indexOf_0f7a4_2 (by decide) ?_
  obtain ⟨r1, hc2, hf⟩ := cq_e hf
  refine r_cTi (n := 2) (As := [.int a0, .int 0]) (rest := []) C (c_fJ0_indexOf_7cf53 hk hj σ H.size a0 0 hc2) (vk_recv hX.2.1 hk hS) gv_RJ0_633 (by decide +kernel) (rmD_le (by decide) (by decide)) rfl rfl (Nat.le_of_ble_eq_true rfl) dJ0_indexOf_0f7a4_3 hP hS hl.1 (fun H locs hP hS => ?_)
  cases hf
  exact r_iret C hP hS dJ0_indexOf_0f7a4_6
def fX0_fill (σ : St) (a0 : Int32) (a1 : Int32) (a2 : Int32) : Option (Int32 × St) :=
(if (σ 34 1) < 60 then
(wrK 60 σ 35 (σ 34 1) a0 fun σ2 =>
(wrK 60 σ2 36 (σ2 34 1) a1 fun σ4 =>
(wrK 60 σ4 37 (σ4 34 1) a2 fun σ6 =>
(nmS (st_put σ6 34 1 ((σ6 34 1) + 1)) fun σ8 =>
some (((σ8 34 1) - 1), σ8)))))
else
some ((-1), σ))
set_option maxHeartbeats 4000000 in
theorem c_fX0_fill {E : Ev} {l : Launch} (hj : jW true E) (σ : St) (sz : Nat) (a0 : Int32) (a1 : Int32) (a2 : Int32) {rr : Int32} {sr : St} (hf : fX0_fill σ a0 a1 a2 = some (rr, sr)) : Met l yX0_fill (Cond.code yX0_fill cX0_fill 4 (some .int) :: gT) (rmD 1) (va_Pc [.ref (ea E 34), .int a0, .int a1, .int a2] (preW true E σ sz)) (QI true E rr sr sz) 0 0 (aW true E sz) := by
  refine r_entry (QI true E rr sr) hj (by decide) [.ref (ea E 34), .int a0, .int a1, .int a2] (Nat.le_of_ble_eq_true rfl) (fun p e s m args below meth c C => ?_)
  intro H locs ls hP hS hl
  have hl : lv_has ls 4 [(0, .ref (ea E 34)), (1, .int a0), (2, .int a1), (3, .int a2)] := hl
  obtain ⟨hx, hb, hr, hml, hown, hts, hlocks, hK, hX, hj⟩ := id C
  unfold fX0_fill at hf
  refine lv_aload_n hx hb dX0_fill_0 rfl (lv_at hl 0 rfl) ?_
  refine r_get (k := 1) (v := .int (σ 34 1)) C hP oC_34 rfl iX0 (by decide) wm_t249 rfl rfl dX0_fill_1 ?_
  refine lv_bipush (v := 60) hx hb dX0_fill_4 (by decide) ?_
  refine lv_icmp_lt (tgt := 11) hx hb dX0_fill_6 (by decide) (fun c1 => ?_) (fun c1 => ?_)
  · replace hf := it_t c1 hf
    refine lv_aload_n hx hb dX0_fill_11 rfl (lv_at hl 0 rfl) ?_
    refine r_get (k := 2) (v := .ref (ea E 35)) C hP oC_34 rfl iX0 (by decide) wm_t250 rfl rfl dX0_fill_12 ?_
    refine lv_aload_n hx hb dX0_fill_15 rfl (lv_at hl 0 rfl) ?_
    refine r_get (k := 1) (v := .int (σ 34 1)) C hP oC_34 rfl iX0 (by decide) wm_t249 rfl rfl dX0_fill_16 ?_
    refine lv_iload_n hx hb dX0_fill_19 rfl (lv_at hl 1 rfl) ?_
    obtain ⟨h3, σ2, eσ2, hf⟩ := wrK_e hf
    refine r_ast C hP hS aC_35 h3 dX0_fill_20 (fun H locs hP hS => ?_)
    rw [← eσ2] at hP
    refine lv_aload_n hx hb dX0_fill_21 rfl (lv_at hl 0 rfl) ?_
    refine r_get (k := 3) (v := .ref (ea E 36)) C hP oC_34 rfl iX0 (by decide) wm_t251 rfl rfl dX0_fill_22 ?_
    refine lv_aload_n hx hb dX0_fill_25 rfl (lv_at hl 0 rfl) ?_
    refine r_get (k := 1) (v := .int (σ2 34 1)) C hP oC_34 rfl iX0 (by decide) wm_t249 rfl rfl dX0_fill_26 ?_
    refine lv_iload_n hx hb dX0_fill_29 rfl (lv_at hl 2 rfl) ?_
    obtain ⟨h5, σ4, eσ4, hf⟩ := wrK_e hf
    refine r_ast C hP hS aC_36 h5 dX0_fill_30 (fun H locs hP hS => ?_)
    rw [← eσ4] at hP
    refine lv_aload_n hx hb dX0_fill_31 rfl (lv_at hl 0 rfl) ?_
    refine r_get (k := 4) (v := .ref (ea E 37)) C hP oC_34 rfl iX0 (by decide) wm_t252 rfl rfl dX0_fill_32 ?_
    refine lv_aload_n hx hb dX0_fill_35 rfl (lv_at hl 0 rfl) ?_
    refine r_get (k := 1) (v := .int (σ4 34 1)) C hP oC_34 rfl iX0 (by decide) wm_t249 rfl rfl dX0_fill_36 ?_
    refine lv_iload_n hx hb dX0_fill_39 rfl (lv_at hl 3 rfl) ?_
    obtain ⟨h7, σ6, eσ6, hf⟩ := wrK_e hf
    refine r_ast C hP hS aC_37 h7 dX0_fill_40 (fun H locs hP hS => ?_)
    rw [← eσ6] at hP
    refine lv_aload_n hx hb dX0_fill_41 rfl (lv_at hl 0 rfl) ?_
    refine lv_dup hx hb dX0_fill_42 rfl ?_
    refine r_get (k := 1) (v := .int (σ6 34 1)) C hP oC_34 rfl iX0 (by decide) wm_t249 rfl rfl dX0_fill_43 ?_
    refine lv_iconst (v := 1) hx hb dX0_fill_46 (by decide) ?_
    refine lv_iadd hx hb dX0_fill_47 ?_
    refine r_put (k := 1) (x := ((σ6 34 1) + 1)) C hP hS tyX0 tyX0_ok nmX0 oC_34 rfl iX0 (by decide) wm_t249 rfl rfl sC_34_1 rfl rfl (Nat.le_of_ble_eq_true rfl) dX0_fill_48 (fun H locs hP hS => ?_)
    obtain ⟨σ8, eσ8, hf⟩ := nmS_e hf
    rw [← eσ8] at hP
    refine lv_aload_n hx hb dX0_fill_51 rfl (lv_at hl 0 rfl) ?_
    refine r_get (k := 1) (v := .int (σ8 34 1)) C hP oC_34 rfl iX0 (by decide) wm_t249 rfl rfl dX0_fill_52 ?_
    refine lv_iconst (v := 1) hx hb dX0_fill_55 (by decide) ?_
    refine lv_isub hx hb dX0_fill_56 ?_
    cases hf
    exact r_iret C hP hS dX0_fill_57
  · replace hf := it_f c1 hf
    refine lv_iconst (v := (-1)) hx hb dX0_fill_9 (by decide) ?_
    cases hf
    exact r_iret C hP hS dX0_fill_10
def fX0_distance (a0 : Int32) (a1 : Int32) : Int32 :=
(nm (((a0 / 4) - (a0 / 4) / 8 * 8) - ((a1 / 4) - (a1 / 4) / 8 * 8)) fun v1 =>
(nm (if 0 ≤ ((a0 / 32) - (a1 / 32)) then ((a0 / 32) - (a1 / 32)) else 0 - ((a0 / 32) - (a1 / 32))) fun v2 =>
(nm (if 0 ≤ ((a0 - a0 / 4 * 4) - (a1 - a1 / 4 * 4)) then ((a0 - a0 / 4 * 4) - (a1 - a1 / 4 * 4)) else 0 - ((a0 - a0 / 4 * 4) - (a1 - a1 / 4 * 4))) fun v3 =>
((v2 + (if 0 ≤ v1 then v1 else 0 - v1)) + v3))))
set_option maxHeartbeats 4000000 in
theorem c_fX0_distance {E : Ev} {l : Launch} (hj : jW true E) (σ : St) (sz : Nat) (a0 : Int32) (a1 : Int32) : Met l yX0_distance (Cond.code yX0_distance cX0_distance 5 (some .int) :: gT) (rmD 2) (va_Pc [.int a0, .int a1] (preW true E σ sz)) (QI true E (fX0_distance a0 a1) σ sz) 0 0 (aW true E sz) := by
  refine r_entry (QI true E (fX0_distance a0 a1) σ) hj (by decide) [.int a0, .int a1] (Nat.le_of_ble_eq_true rfl) (fun p e s m args below meth c C => ?_)
  intro H locs ls hP hS hl
  have hl : lv_has ls 5 [(0, .int a0), (1, .int a1)] := hl
  obtain ⟨hx, hb, hr, hml, hown, hts, hlocks, hK, hX, hj⟩ := id C
  generalize hf : fX0_distance a0 a1 = rr
  unfold fX0_distance at hf
  refine lv_iload_n hx hb dX0_distance_0 rfl (lv_at hl 0 rfl) ?_
  refine lv_bipush (v := 32) hx hb dX0_distance_1 (by decide) ?_
  refine lv_idiv hx hb dX0_distance_3 (by decide) ?_
  refine lv_iload_n hx hb dX0_distance_4 rfl (lv_at hl 1 rfl) ?_
  refine lv_bipush (v := 32) hx hb dX0_distance_5 (by decide) ?_
  refine lv_idiv hx hb dX0_distance_7 (by decide) ?_
  refine lv_isub hx hb dX0_distance_8 ?_
  refine lv_istore_n (lv' := [(2, .int ((a0 / 32) - (a1 / 32))), (0, .int a0), (1, .int a1)]) hx hb dX0_distance_9 rfl hl (by decide) rfl (fun ls hl => ?_)
  refine lv_iload_n hx hb dX0_distance_10 rfl (lv_at hl 1 rfl) ?_
  refine lv_iconst (v := 4) hx hb dX0_distance_11 (by decide) ?_
  refine lv_idiv hx hb dX0_distance_12 (by decide) ?_
  refine lv_bipush (v := 8) hx hb dX0_distance_13 (by decide) ?_
  refine lv_irem hx hb dX0_distance_15 (by decide) ?_
  refine lv_iload_n hx hb dX0_distance_16 rfl (lv_at hl 2 rfl) ?_
  refine lv_iconst (v := 4) hx hb dX0_distance_17 (by decide) ?_
  refine lv_idiv hx hb dX0_distance_18 (by decide) ?_
  refine lv_bipush (v := 8) hx hb dX0_distance_19 (by decide) ?_
  refine lv_irem hx hb dX0_distance_21 (by decide) ?_
  refine lv_isub hx hb dX0_distance_22 ?_
  refine lv_topi (fun v1 ev1 => ?_)
  replace hf := nm_i ev1 hf
  refine lv_istore_n (lv' := [(3, .int v1), (2, .int ((a0 / 32) - (a1 / 32))), (0, .int a0), (1, .int a1)]) hx hb dX0_distance_23 rfl hl (by decide) rfl (fun ls hl => ?_)
  refine lv_iload_n hx hb dX0_distance_24 rfl (lv_at hl 2 rfl) ?_
  refine lv_iconst (v := 4) hx hb dX0_distance_25 (by decide) ?_
  refine lv_irem hx hb dX0_distance_26 (by decide) ?_
  refine lv_iload_n hx hb dX0_distance_27 rfl (lv_at hl 3 rfl) ?_
  refine lv_iconst (v := 4) hx hb dX0_distance_28 (by decide) ?_
  refine lv_irem hx hb dX0_distance_29 (by decide) ?_
  refine lv_isub hx hb dX0_distance_30 ?_
  refine lv_istore (lv' := [(4, .int ((a0 - a0 / 4 * 4) - (a1 - a1 / 4 * 4))), (3, .int v1), (2, .int ((a0 / 32) - (a1 / 32))), (0, .int a0), (1, .int a1)]) hx hb dX0_distance_31 hl (by decide) rfl (fun ls hl => ?_)
  refine lv_iload_n hx hb dX0_distance_33 rfl (lv_at hl 2 rfl) ?_
  refine va_mabs hx hb (hml.trans hl.1.symm) hown (hts _ wm_t845) (hts _ wm_t741) (hts _ wm_t4) (hts _ wm_t742) (by decide) (Nat.le_of_ble_eq_true rfl) (Nat.zero_le _) (Nat.zero_le _) dX0_distance_34 ?_
  refine lv_topi (fun v2 ev2 => ?_)
  replace hf := nm_i ev2 hf
  refine lv_iload_n hx hb dX0_distance_37 rfl (lv_at hl 1 rfl) ?_
  refine va_mabs hx hb (hml.trans hl.1.symm) hown (hts _ wm_t845) (hts _ wm_t741) (hts _ wm_t4) (hts _ wm_t742) (by decide) (Nat.le_of_ble_eq_true rfl) (Nat.zero_le _) (Nat.zero_le _) dX0_distance_38 ?_
  refine lv_iadd hx hb dX0_distance_41 ?_
  refine lv_iload hx hb dX0_distance_42 (lv_at hl 0 rfl) ?_
  refine va_mabs hx hb (hml.trans hl.1.symm) hown (hts _ wm_t845) (hts _ wm_t741) (hts _ wm_t4) (hts _ wm_t742) (by decide) (Nat.le_of_ble_eq_true rfl) (Nat.zero_le _) (Nat.zero_le _) dX0_distance_44 ?_
  refine lv_topi (fun v3 ev3 => ?_)
  replace hf := nm_i ev3 hf
  refine lv_iadd hx hb dX0_distance_47 ?_
  subst hf
  exact r_iret C hP hS dX0_distance_48
def fX1_setPapers (σ : St) (a0 : Int32) (a1 : Int32) (a2 : Int32) (a3 : Int32) : Option St :=
(wrK 8 σ 33 0 a0 fun σ1 =>
(wrK 8 σ1 33 1 a1 fun σ3 =>
(wrK 8 σ3 33 2 a2 fun σ5 =>
(wrK 8 σ5 33 3 a3 fun σ7 =>
some σ7))))
set_option maxHeartbeats 4000000 in
theorem c_fX1_setPapers {E : Ev} {l : Launch} (hj : jW true E) (σ : St) (sz : Nat) (a0 : Int32) (a1 : Int32) (a2 : Int32) (a3 : Int32) {sr : St} (hf : fX1_setPapers σ a0 a1 a2 a3 = some sr) : Met l yX1_setPapers (Cond.code yX1_setPapers cX1_setPapers 5 none :: gT) (rmD 1) (va_Pc [.ref (ea E 30), .int a0, .int a1, .int a2, .int a3] (preW true E σ sz)) (QV true E sr sz) 0 0 (aW true E sz) := by
  refine r_entry (QV true E sr) hj (by decide) [.ref (ea E 30), .int a0, .int a1, .int a2, .int a3] (Nat.le_of_ble_eq_true rfl) (fun p e s m args below meth c C => ?_)
  intro H locs ls hP hS hl
  have hl : lv_has ls 5 [(0, .ref (ea E 30)), (1, .int a0), (2, .int a1), (3, .int a2), (4, .int a3)] := hl
  obtain ⟨hx, hb, hr, hml, hown, hts, hlocks, hK, hX, hj⟩ := id C
  unfold fX1_setPapers at hf
  refine lv_aload_n hx hb dX1_setPapers_0 rfl (lv_at hl 0 rfl) ?_
  refine r_get (k := 4) (v := .ref (ea E 33)) C hP oC_30 rfl iX1 (by decide) wm_t229 rfl rfl dX1_setPapers_1 ?_
  refine lv_iconst (v := 0) hx hb dX1_setPapers_4 (by decide) ?_
  refine lv_iload_n hx hb dX1_setPapers_5 rfl (lv_at hl 1 rfl) ?_
  obtain ⟨h2, σ1, eσ1, hf⟩ := wrK_e hf
  refine r_ast C hP hS aC_33 h2 dX1_setPapers_6 (fun H locs hP hS => ?_)
  rw [← eσ1] at hP
  refine lv_aload_n hx hb dX1_setPapers_7 rfl (lv_at hl 0 rfl) ?_
  refine r_get (k := 4) (v := .ref (ea E 33)) C hP oC_30 rfl iX1 (by decide) wm_t229 rfl rfl dX1_setPapers_8 ?_
  refine lv_iconst (v := 1) hx hb dX1_setPapers_11 (by decide) ?_
  refine lv_iload_n hx hb dX1_setPapers_12 rfl (lv_at hl 2 rfl) ?_
  obtain ⟨h4, σ3, eσ3, hf⟩ := wrK_e hf
  refine r_ast C hP hS aC_33 h4 dX1_setPapers_13 (fun H locs hP hS => ?_)
  rw [← eσ3] at hP
  refine lv_aload_n hx hb dX1_setPapers_14 rfl (lv_at hl 0 rfl) ?_
  refine r_get (k := 4) (v := .ref (ea E 33)) C hP oC_30 rfl iX1 (by decide) wm_t229 rfl rfl dX1_setPapers_15 ?_
  refine lv_iconst (v := 2) hx hb dX1_setPapers_18 (by decide) ?_
  refine lv_iload_n hx hb dX1_setPapers_19 rfl (lv_at hl 3 rfl) ?_
  obtain ⟨h6, σ5, eσ5, hf⟩ := wrK_e hf
  refine r_ast C hP hS aC_33 h6 dX1_setPapers_20 (fun H locs hP hS => ?_)
  rw [← eσ5] at hP
  refine lv_aload_n hx hb dX1_setPapers_21 rfl (lv_at hl 0 rfl) ?_
  refine r_get (k := 4) (v := .ref (ea E 33)) C hP oC_30 rfl iX1 (by decide) wm_t229 rfl rfl dX1_setPapers_22 ?_
  refine lv_iconst (v := 3) hx hb dX1_setPapers_25 (by decide) ?_
  refine lv_iload hx hb dX1_setPapers_26 (lv_at hl 4 rfl) ?_
  obtain ⟨h8, σ7, eσ7, hf⟩ := wrK_e hf
  refine r_ast C hP hS aC_33 h8 dX1_setPapers_28 (fun H locs hP hS => ?_)
  rw [← eσ7] at hP
  cases hf
  exact r_vret C hP hS dX1_setPapers_29
def fX1_setVoyage (σ : St) (a0 : Int32) (a1 : Int32) (a2 : Int32) (a3 : Int32) : Option St :=
(wrK 8 σ 33 4 a0 fun σ1 =>
(wrK 8 σ1 33 5 a1 fun σ3 =>
(wrK 8 σ3 33 6 a2 fun σ5 =>
(wrK 8 σ5 33 7 a3 fun σ7 =>
some σ7))))
set_option maxHeartbeats 4000000 in
theorem c_fX1_setVoyage {E : Ev} {l : Launch} (hj : jW true E) (σ : St) (sz : Nat) (a0 : Int32) (a1 : Int32) (a2 : Int32) (a3 : Int32) {sr : St} (hf : fX1_setVoyage σ a0 a1 a2 a3 = some sr) : Met l yX1_setVoyage (Cond.code yX1_setVoyage cX1_setVoyage 5 none :: gT) (rmD 1) (va_Pc [.ref (ea E 30), .int a0, .int a1, .int a2, .int a3] (preW true E σ sz)) (QV true E sr sz) 0 0 (aW true E sz) := by
  refine r_entry (QV true E sr) hj (by decide) [.ref (ea E 30), .int a0, .int a1, .int a2, .int a3] (Nat.le_of_ble_eq_true rfl) (fun p e s m args below meth c C => ?_)
  intro H locs ls hP hS hl
  have hl : lv_has ls 5 [(0, .ref (ea E 30)), (1, .int a0), (2, .int a1), (3, .int a2), (4, .int a3)] := hl
  obtain ⟨hx, hb, hr, hml, hown, hts, hlocks, hK, hX, hj⟩ := id C
  unfold fX1_setVoyage at hf
  refine lv_aload_n hx hb dX1_setVoyage_0 rfl (lv_at hl 0 rfl) ?_
  refine r_get (k := 4) (v := .ref (ea E 33)) C hP oC_30 rfl iX1 (by decide) wm_t229 rfl rfl dX1_setVoyage_1 ?_
  refine lv_iconst (v := 4) hx hb dX1_setVoyage_4 (by decide) ?_
  refine lv_iload_n hx hb dX1_setVoyage_5 rfl (lv_at hl 1 rfl) ?_
  obtain ⟨h2, σ1, eσ1, hf⟩ := wrK_e hf
  refine r_ast C hP hS aC_33 h2 dX1_setVoyage_6 (fun H locs hP hS => ?_)
  rw [← eσ1] at hP
  refine lv_aload_n hx hb dX1_setVoyage_7 rfl (lv_at hl 0 rfl) ?_
  refine r_get (k := 4) (v := .ref (ea E 33)) C hP oC_30 rfl iX1 (by decide) wm_t229 rfl rfl dX1_setVoyage_8 ?_
  refine lv_iconst (v := 5) hx hb dX1_setVoyage_11 (by decide) ?_
  refine lv_iload_n hx hb dX1_setVoyage_12 rfl (lv_at hl 2 rfl) ?_
  obtain ⟨h4, σ3, eσ3, hf⟩ := wrK_e hf
  refine r_ast C hP hS aC_33 h4 dX1_setVoyage_13 (fun H locs hP hS => ?_)
  rw [← eσ3] at hP
  refine lv_aload_n hx hb dX1_setVoyage_14 rfl (lv_at hl 0 rfl) ?_
  refine r_get (k := 4) (v := .ref (ea E 33)) C hP oC_30 rfl iX1 (by decide) wm_t229 rfl rfl dX1_setVoyage_15 ?_
  refine lv_bipush (v := 6) hx hb dX1_setVoyage_18 (by decide) ?_
  refine lv_iload_n hx hb dX1_setVoyage_20 rfl (lv_at hl 3 rfl) ?_
  obtain ⟨h6, σ5, eσ5, hf⟩ := wrK_e hf
  refine r_ast C hP hS aC_33 h6 dX1_setVoyage_21 (fun H locs hP hS => ?_)
  rw [← eσ5] at hP
  refine lv_aload_n hx hb dX1_setVoyage_22 rfl (lv_at hl 0 rfl) ?_
  refine r_get (k := 4) (v := .ref (ea E 33)) C hP oC_30 rfl iX1 (by decide) wm_t229 rfl rfl dX1_setVoyage_23 ?_
  refine lv_bipush (v := 7) hx hb dX1_setVoyage_26 (by decide) ?_
  refine lv_iload hx hb dX1_setVoyage_28 (lv_at hl 4 rfl) ?_
  obtain ⟨h8, σ7, eσ7, hf⟩ := wrK_e hf
  refine r_ast C hP hS aC_33 h8 dX1_setVoyage_30 (fun H locs hP hS => ?_)
  rw [← eσ7] at hP
  cases hf
  exact r_vret C hP hS dX1_setVoyage_31
def fX1_waysAbove_10B (σ : St) (rec10 : Int32 → Int32 → Option Int32) (x2 : Int32) (x3 : Int32) : Option Int32 :=
(if 21 ≤ x3 then
some x2
else
(rdK 21 (σ 31) x3 fun v2 =>
rec10 (x2 + v2) (x3 + 1)))
set_option maxHeartbeats 4000000 in
theorem b_fX1_waysAbove_10B {E : Ev} {l : Launch} {p : Program} {e : Env} {s : State} {m : MethodId} {args : Array Value} {below : List Frame} {meth : Method} {c : Code} (σ : St) (C : CX true E RX1 cX1_waysAbove 4 (some .int) p s m args meth c) {rr : Int32} (rec10 : Int32 → Int32 → Option Int32) (hr10 : ∀  (x2 : Int32) (x3 : Int32), rec10 x2 x3 = some rr → GW true l (rmD 2) E 4 p e s m args below meth c (MQ below (QI true E rr σ s.heap.size) args s 0 0 (aW true E s.heap.size)) σ 10 [(0, .ref (ea E 30)), (2, .int x2), (3, .int x3)] []) : ∀  (x2 : Int32) (x3 : Int32), fX1_waysAbove_10B σ rec10 x2 x3 = some rr → GW true l (rmD 2) E 4 p e s m args below meth c (MQ below (QI true E rr σ s.heap.size) args s 0 0 (aW true E s.heap.size)) σ 10 [(0, .ref (ea E 30)), (2, .int x2), (3, .int x3)] [] := by
  intro x2 x3 hf H locs ls hP hS hl
  obtain ⟨hx, hb, hr, hml, hown, hts, hlocks, hK, hX, hj⟩ := id C
  unfold fX1_waysAbove_10B at hf
  refine lv_iload_n hx hb dX1_waysAbove_10 rfl (lv_at hl 2 rfl) ?_
  refine lv_bipush (v := 21) hx hb dX1_waysAbove_11 (by decide) ?_
  refine lv_icmp_ge (tgt := 31) hx hb dX1_waysAbove_13 (by decide) (fun c1 => ?_) (fun c1 => ?_)
  · replace hf := it_t c1 hf
    refine lv_iload_n hx hb dX1_waysAbove_31 rfl (lv_at hl 1 rfl) ?_
    cases hf
    exact r_iret C hP hS dX1_waysAbove_32
  · replace hf := it_f c1 hf
    refine lv_iload_n hx hb dX1_waysAbove_16 rfl (lv_at hl 1 rfl) ?_
    refine lv_aload_n hx hb dX1_waysAbove_17 rfl (lv_at hl 0 rfl) ?_
    refine r_get (k := 2) (v := .ref (ea E 31)) C hP oC_30 rfl iX1 (by decide) wm_t227 rfl rfl dX1_waysAbove_18 ?_
    refine lv_iload_n hx hb dX1_waysAbove_21 rfl (lv_at hl 2 rfl) ?_
    have h3 := (rdK_e hf).1
    refine r_ald C hP aC_31 h3 dX1_waysAbove_22 ?_
    refine lv_topi (fun v2 ev2 => ?_)
    replace hf := rdK_n ev2 hf
    refine lv_iadd hx hb dX1_waysAbove_23 ?_
    refine lv_istore_n (lv' := [(2, .int (x2 + v2)), (0, .ref (ea E 30)), (3, .int x3)]) hx hb dX1_waysAbove_24 rfl hl (by decide) rfl (fun ls hl => ?_)
    refine lv_iinc (v := (x3 + 1)) (lv' := [(3, .int (x3 + 1)), (2, .int (x2 + v2)), (0, .ref (ea E 30))]) hx hb dX1_waysAbove_25 hl (k := 2) rfl rfl (by decide) rfl (fun ls hl => ?_)
    refine lv_goto (tgt := 10) hx hb dX1_waysAbove_28 (by decide) ?_
    exact hr10 (x2 + v2) (x3 + 1) hf H locs ls hP hS (lv_sub hl [2, 1, 0] rfl)
def fX1_waysAbove_10 (σ : St) : Nat → Int32 → Int32 → Option Int32
  | 0 => fun _ _ => none
  | n + 1 => fun x2 x3 => fX1_waysAbove_10B σ (fX1_waysAbove_10 σ n) x2 x3
theorem b_fX1_waysAbove_10 {E : Ev} {l : Launch} {p : Program} {e : Env} {s : State} {m : MethodId} {args : Array Value} {below : List Frame} {meth : Method} {c : Code} (σ : St) (C : CX true E RX1 cX1_waysAbove 4 (some .int) p s m args meth c) {rr : Int32} : ∀ (n : Nat) (x2 : Int32) (x3 : Int32), fX1_waysAbove_10 σ n x2 x3 = some rr → GW true l (rmD 2) E 4 p e s m args below meth c (MQ below (QI true E rr σ s.heap.size) args s 0 0 (aW true E s.heap.size)) σ 10 [(0, .ref (ea E 30)), (2, .int x2), (3, .int x3)] [] := by
  intro n
  induction n with
  | zero => intro x2 x3 hf; have hf : (none : Option _) = some _ := hf; cases hf
  | succ n ih => intro x2 x3 hf; exact b_fX1_waysAbove_10B σ C (fX1_waysAbove_10 σ n) ih x2 x3 hf
def fX1_waysAbove (σ : St) (a0 : Int32) : Option Int32 :=
fX1_waysAbove_10 σ FU 0 (if 0 < (a0 + 1) then (a0 + 1) else 0)
set_option maxHeartbeats 4000000 in
theorem c_fX1_waysAbove {E : Ev} {l : Launch} (hj : jW true E) (σ : St) (sz : Nat) (a0 : Int32) {rr : Int32} (hf : fX1_waysAbove σ a0 = some rr) : Met l yX1_waysAbove (Cond.code yX1_waysAbove cX1_waysAbove 4 (some .int) :: gT) (rmD 2) (va_Pc [.ref (ea E 30), .int a0] (preW true E σ sz)) (QI true E rr σ sz) 0 0 (aW true E sz) := by
  refine r_entry (QI true E rr σ) hj (by decide) [.ref (ea E 30), .int a0] (Nat.le_of_ble_eq_true rfl) (fun p e s m args below meth c C => ?_)
  intro H locs ls hP hS hl
  have hl : lv_has ls 4 [(0, .ref (ea E 30)), (1, .int a0)] := hl
  obtain ⟨hx, hb, hr, hml, hown, hts, hlocks, hK, hX, hj⟩ := id C
  unfold fX1_waysAbove at hf
  refine lv_iconst (v := 0) hx hb dX1_waysAbove_0 (by decide) ?_
  refine lv_istore_n (lv' := [(2, .int 0), (0, .ref (ea E 30)), (1, .int a0)]) hx hb dX1_waysAbove_1 rfl hl (by decide) rfl (fun ls hl => ?_)
  refine lv_iconst (v := 0) hx hb dX1_waysAbove_2 (by decide) ?_
  refine lv_iload_n hx hb dX1_waysAbove_3 rfl (lv_at hl 2 rfl) ?_
  refine lv_iconst (v := 1) hx hb dX1_waysAbove_4 (by decide) ?_
  refine lv_iadd hx hb dX1_waysAbove_5 ?_
  refine va_mmax hx hb (hml.trans hl.1.symm) hown (hts _ wm_t953) (hts _ wm_t50) (hts _ wm_t4) (hts _ wm_t51) (by decide) (Nat.le_of_ble_eq_true rfl) (Nat.zero_le _) (Nat.zero_le _) dX1_waysAbove_6 ?_
  refine lv_istore_n (lv' := [(3, .int (if 0 < (a0 + 1) then (a0 + 1) else 0)), (2, .int 0), (0, .ref (ea E 30)), (1, .int a0)]) hx hb dX1_waysAbove_9 rfl hl (by decide) rfl (fun ls hl => ?_)
  exact b_fX1_waysAbove_10 σ C FU 0 (if 0 < (a0 + 1) then (a0 + 1) else 0) hf H locs ls hP hS (lv_sub hl [2, 1, 0] rfl)
def fX1_firstAbove_10B (σ : St) (rec10 : Int32 → Int32 → Option Int32) (x2 : Int32) (x3 : Int32) : Option Int32 :=
(if 21 ≤ x3 then
some x2
else
(rdK 21 (σ 32) x3 fun v2 =>
(if v2 = (-1) then
rec10 x2 (x3 + 1)
else
(if x2 = (-1) then
(rdK 21 (σ 32) x3 fun v6 =>
rec10 v6 (x3 + 1))
else
(rdK 21 (σ 32) x3 fun v8 =>
(if x2 ≤ v8 then
rec10 x2 (x3 + 1)
else
(rdK 21 (σ 32) x3 fun v11 =>
rec10 v11 (x3 + 1))))))))
set_option maxHeartbeats 4000000 in
theorem b_fX1_firstAbove_10B {E : Ev} {l : Launch} {p : Program} {e : Env} {s : State} {m : MethodId} {args : Array Value} {below : List Frame} {meth : Method} {c : Code} (σ : St) (C : CX true E RX1 cX1_firstAbove 4 (some .int) p s m args meth c) {rr : Int32} (rec10 : Int32 → Int32 → Option Int32) (hr10 : ∀  (x2 : Int32) (x3 : Int32), rec10 x2 x3 = some rr → GW true l (rmD 2) E 4 p e s m args below meth c (MQ below (QI true E rr σ s.heap.size) args s 0 0 (aW true E s.heap.size)) σ 10 [(0, .ref (ea E 30)), (2, .int x2), (3, .int x3)] []) : ∀  (x2 : Int32) (x3 : Int32), fX1_firstAbove_10B σ rec10 x2 x3 = some rr → GW true l (rmD 2) E 4 p e s m args below meth c (MQ below (QI true E rr σ s.heap.size) args s 0 0 (aW true E s.heap.size)) σ 10 [(0, .ref (ea E 30)), (2, .int x2), (3, .int x3)] [] := by
  intro x2 x3 hf H locs ls hP hS hl
  obtain ⟨hx, hb, hr, hml, hown, hts, hlocks, hK, hX, hj⟩ := id C
  unfold fX1_firstAbove_10B at hf
  refine lv_iload_n hx hb dX1_firstAbove_10 rfl (lv_at hl 2 rfl) ?_
  refine lv_bipush (v := 21) hx hb dX1_firstAbove_11 (by decide) ?_
  refine lv_icmp_ge (tgt := 54) hx hb dX1_firstAbove_13 (by decide) (fun c1 => ?_) (fun c1 => ?_)
  · replace hf := it_t c1 hf
    refine lv_iload_n hx hb dX1_firstAbove_54 rfl (lv_at hl 1 rfl) ?_
    cases hf
    exact r_iret C hP hS dX1_firstAbove_55
  · replace hf := it_f c1 hf
    refine lv_aload_n hx hb dX1_firstAbove_16 rfl (lv_at hl 0 rfl) ?_
    refine r_get (k := 3) (v := .ref (ea E 32)) C hP oC_30 rfl iX1 (by decide) wm_t228 rfl rfl dX1_firstAbove_17 ?_
    refine lv_iload_n hx hb dX1_firstAbove_20 rfl (lv_at hl 2 rfl) ?_
    have h3 := (rdK_e hf).1
    refine r_ald C hP aC_32 h3 dX1_firstAbove_21 ?_
    refine lv_topi (fun v2 ev2 => ?_)
    replace hf := rdK_n ev2 hf
    refine lv_iconst (v := (-1)) hx hb dX1_firstAbove_22 (by decide) ?_
    refine lv_icmp_eq (tgt := 48) hx hb dX1_firstAbove_23 (by decide) (fun c4 => ?_) (fun c4 => ?_)
    · replace hf := it_t c4 hf
      refine lv_iinc (v := (x3 + 1)) (lv' := [(3, .int (x3 + 1)), (0, .ref (ea E 30)), (2, .int x2)]) hx hb dX1_firstAbove_48 hl (k := 2) rfl rfl (by decide) rfl (fun ls hl => ?_)
      refine lv_goto (tgt := 10) hx hb dX1_firstAbove_51 (by decide) ?_
      exact hr10 x2 (x3 + 1) hf H locs ls hP hS (lv_sub hl [1, 2, 0] rfl)
    · replace hf := it_f c4 hf
      refine lv_iload_n hx hb dX1_firstAbove_26 rfl (lv_at hl 1 rfl) ?_
      refine lv_iconst (v := (-1)) hx hb dX1_firstAbove_27 (by decide) ?_
      refine lv_icmp_eq (tgt := 41) hx hb dX1_firstAbove_28 (by decide) (fun c5 => ?_) (fun c5 => ?_)
      · replace hf := it_t c5 hf
        refine lv_aload_n hx hb dX1_firstAbove_41 rfl (lv_at hl 0 rfl) ?_
        refine r_get (k := 3) (v := .ref (ea E 32)) C hP oC_30 rfl iX1 (by decide) wm_t228 rfl rfl dX1_firstAbove_42 ?_
        refine lv_iload_n hx hb dX1_firstAbove_45 rfl (lv_at hl 2 rfl) ?_
        have h7 := (rdK_e hf).1
        refine r_ald C hP aC_32 h7 dX1_firstAbove_46 ?_
        refine lv_topi (fun v6 ev6 => ?_)
        replace hf := rdK_n ev6 hf
        refine lv_istore_n (lv' := [(2, .int v6), (0, .ref (ea E 30)), (3, .int x3)]) hx hb dX1_firstAbove_47 rfl hl (by decide) rfl (fun ls hl => ?_)
        refine lv_iinc (v := (x3 + 1)) (lv' := [(3, .int (x3 + 1)), (2, .int v6), (0, .ref (ea E 30))]) hx hb dX1_firstAbove_48 hl (k := 2) rfl rfl (by decide) rfl (fun ls hl => ?_)
        refine lv_goto (tgt := 10) hx hb dX1_firstAbove_51 (by decide) ?_
        exact hr10 v6 (x3 + 1) hf H locs ls hP hS (lv_sub hl [2, 1, 0] rfl)
      · replace hf := it_f c5 hf
        refine lv_aload_n hx hb dX1_firstAbove_31 rfl (lv_at hl 0 rfl) ?_
        refine r_get (k := 3) (v := .ref (ea E 32)) C hP oC_30 rfl iX1 (by decide) wm_t228 rfl rfl dX1_firstAbove_32 ?_
        refine lv_iload_n hx hb dX1_firstAbove_35 rfl (lv_at hl 2 rfl) ?_
        have h9 := (rdK_e hf).1
        refine r_ald C hP aC_32 h9 dX1_firstAbove_36 ?_
        refine lv_topi (fun v8 ev8 => ?_)
        replace hf := rdK_n ev8 hf
        refine lv_iload_n hx hb dX1_firstAbove_37 rfl (lv_at hl 1 rfl) ?_
        refine lv_icmp_ge (tgt := 48) hx hb dX1_firstAbove_38 (by decide) (fun c10 => ?_) (fun c10 => ?_)
        · replace hf := it_t c10 hf
          refine lv_iinc (v := (x3 + 1)) (lv' := [(3, .int (x3 + 1)), (0, .ref (ea E 30)), (2, .int x2)]) hx hb dX1_firstAbove_48 hl (k := 2) rfl rfl (by decide) rfl (fun ls hl => ?_)
          refine lv_goto (tgt := 10) hx hb dX1_firstAbove_51 (by decide) ?_
          exact hr10 x2 (x3 + 1) hf H locs ls hP hS (lv_sub hl [1, 2, 0] rfl)
        · replace hf := it_f c10 hf
          refine lv_aload_n hx hb dX1_firstAbove_41 rfl (lv_at hl 0 rfl) ?_
          refine r_get (k := 3) (v := .ref (ea E 32)) C hP oC_30 rfl iX1 (by decide) wm_t228 rfl rfl dX1_firstAbove_42 ?_
          refine lv_iload_n hx hb dX1_firstAbove_45 rfl (lv_at hl 2 rfl) ?_
          have h12 := (rdK_e hf).1
          refine r_ald C hP aC_32 h12 dX1_firstAbove_46 ?_
          refine lv_topi (fun v11 ev11 => ?_)
          replace hf := rdK_n ev11 hf
          refine lv_istore_n (lv' := [(2, .int v11), (0, .ref (ea E 30)), (3, .int x3)]) hx hb dX1_firstAbove_47 rfl hl (by decide) rfl (fun ls hl => ?_)
          refine lv_iinc (v := (x3 + 1)) (lv' := [(3, .int (x3 + 1)), (2, .int v11), (0, .ref (ea E 30))]) hx hb dX1_firstAbove_48 hl (k := 2) rfl rfl (by decide) rfl (fun ls hl => ?_)
          refine lv_goto (tgt := 10) hx hb dX1_firstAbove_51 (by decide) ?_
          exact hr10 v11 (x3 + 1) hf H locs ls hP hS (lv_sub hl [2, 1, 0] rfl)
def fX1_firstAbove_10 (σ : St) : Nat → Int32 → Int32 → Option Int32
  | 0 => fun _ _ => none
  | n + 1 => fun x2 x3 => fX1_firstAbove_10B σ (fX1_firstAbove_10 σ n) x2 x3
theorem b_fX1_firstAbove_10 {E : Ev} {l : Launch} {p : Program} {e : Env} {s : State} {m : MethodId} {args : Array Value} {below : List Frame} {meth : Method} {c : Code} (σ : St) (C : CX true E RX1 cX1_firstAbove 4 (some .int) p s m args meth c) {rr : Int32} : ∀ (n : Nat) (x2 : Int32) (x3 : Int32), fX1_firstAbove_10 σ n x2 x3 = some rr → GW true l (rmD 2) E 4 p e s m args below meth c (MQ below (QI true E rr σ s.heap.size) args s 0 0 (aW true E s.heap.size)) σ 10 [(0, .ref (ea E 30)), (2, .int x2), (3, .int x3)] [] := by
  intro n
  induction n with
  | zero => intro x2 x3 hf; have hf : (none : Option _) = some _ := hf; cases hf
  | succ n ih => intro x2 x3 hf; exact b_fX1_firstAbove_10B σ C (fX1_firstAbove_10 σ n) ih x2 x3 hf
def fX1_firstAbove (σ : St) (a0 : Int32) : Option Int32 :=
fX1_firstAbove_10 σ FU (-1) (if 0 < (a0 + 1) then (a0 + 1) else 0)
set_option maxHeartbeats 4000000 in
theorem c_fX1_firstAbove {E : Ev} {l : Launch} (hj : jW true E) (σ : St) (sz : Nat) (a0 : Int32) {rr : Int32} (hf : fX1_firstAbove σ a0 = some rr) : Met l yX1_firstAbove (Cond.code yX1_firstAbove cX1_firstAbove 4 (some .int) :: gT) (rmD 2) (va_Pc [.ref (ea E 30), .int a0] (preW true E σ sz)) (QI true E rr σ sz) 0 0 (aW true E sz) := by
  refine r_entry (QI true E rr σ) hj (by decide) [.ref (ea E 30), .int a0] (Nat.le_of_ble_eq_true rfl) (fun p e s m args below meth c C => ?_)
  intro H locs ls hP hS hl
  have hl : lv_has ls 4 [(0, .ref (ea E 30)), (1, .int a0)] := hl
  obtain ⟨hx, hb, hr, hml, hown, hts, hlocks, hK, hX, hj⟩ := id C
  unfold fX1_firstAbove at hf
  refine lv_iconst (v := (-1)) hx hb dX1_firstAbove_0 (by decide) ?_
  refine lv_istore_n (lv' := [(2, .int (-1)), (0, .ref (ea E 30)), (1, .int a0)]) hx hb dX1_firstAbove_1 rfl hl (by decide) rfl (fun ls hl => ?_)
  refine lv_iconst (v := 0) hx hb dX1_firstAbove_2 (by decide) ?_
  refine lv_iload_n hx hb dX1_firstAbove_3 rfl (lv_at hl 2 rfl) ?_
  refine lv_iconst (v := 1) hx hb dX1_firstAbove_4 (by decide) ?_
  refine lv_iadd hx hb dX1_firstAbove_5 ?_
  refine va_mmax hx hb (hml.trans hl.1.symm) hown (hts _ wm_t953) (hts _ wm_t50) (hts _ wm_t4) (hts _ wm_t51) (by decide) (Nat.le_of_ble_eq_true rfl) (Nat.zero_le _) (Nat.zero_le _) dX1_firstAbove_6 ?_
  refine lv_istore_n (lv' := [(3, .int (if 0 < (a0 + 1) then (a0 + 1) else 0)), (2, .int (-1)), (0, .ref (ea E 30)), (1, .int a0)]) hx hb dX1_firstAbove_9 rfl hl (by decide) rfl (fun ls hl => ?_)
  exact b_fX1_firstAbove_10 σ C FU (-1) (if 0 < (a0 + 1) then (a0 + 1) else 0) hf H locs ls hP hS (lv_sub hl [2, 1, 0] rfl)
def fX2_setTime (σ : St) (a0 : Int32) (a1 : Int32) : Option St :=
(wrK 9 σ 29 4 (σ 28 1) fun σ1 =>
(wrK 9 σ1 29 5 a0 fun σ3 =>
(wrK 9 σ3 29 6 a1 fun σ5 =>
some σ5)))
set_option maxHeartbeats 4000000 in
theorem c_fX2_setTime {E : Ev} {l : Launch} (hj : jW true E) (σ : St) (sz : Nat) (a0 : Int32) (a1 : Int32) {sr : St} (hf : fX2_setTime σ a0 a1 = some sr) : Met l yX2_setTime (Cond.code yX2_setTime cX2_setTime 3 none :: gT) (rmD 1) (va_Pc [.ref (ea E 28), .int a0, .int a1] (preW true E σ sz)) (QV true E sr sz) 0 0 (aW true E sz) := by
  refine r_entry (QV true E sr) hj (by decide) [.ref (ea E 28), .int a0, .int a1] (Nat.le_of_ble_eq_true rfl) (fun p e s m args below meth c C => ?_)
  intro H locs ls hP hS hl
  have hl : lv_has ls 3 [(0, .ref (ea E 28)), (1, .int a0), (2, .int a1)] := hl
  obtain ⟨hx, hb, hr, hml, hown, hts, hlocks, hK, hX, hj⟩ := id C
  unfold fX2_setTime at hf
  refine lv_aload_n hx hb dX2_setTime_0 rfl (lv_at hl 0 rfl) ?_
  refine r_get (k := 2) (v := .ref (ea E 29)) C hP oC_28 rfl iX2 (by decide) wm_t207 rfl rfl dX2_setTime_1 ?_
  refine lv_iconst (v := 4) hx hb dX2_setTime_4 (by decide) ?_
  refine lv_aload_n hx hb dX2_setTime_5 rfl (lv_at hl 0 rfl) ?_
  refine r_get (k := 1) (v := .int (σ 28 1)) C hP oC_28 rfl iX2 (by decide) wm_t205 rfl rfl dX2_setTime_6 ?_
  obtain ⟨h2, σ1, eσ1, hf⟩ := wrK_e hf
  refine r_ast C hP hS aC_29 h2 dX2_setTime_9 (fun H locs hP hS => ?_)
  rw [← eσ1] at hP
  refine lv_aload_n hx hb dX2_setTime_10 rfl (lv_at hl 0 rfl) ?_
  refine r_get (k := 2) (v := .ref (ea E 29)) C hP oC_28 rfl iX2 (by decide) wm_t207 rfl rfl dX2_setTime_11 ?_
  refine lv_iconst (v := 5) hx hb dX2_setTime_14 (by decide) ?_
  refine lv_iload_n hx hb dX2_setTime_15 rfl (lv_at hl 1 rfl) ?_
  obtain ⟨h4, σ3, eσ3, hf⟩ := wrK_e hf
  refine r_ast C hP hS aC_29 h4 dX2_setTime_16 (fun H locs hP hS => ?_)
  rw [← eσ3] at hP
  refine lv_aload_n hx hb dX2_setTime_17 rfl (lv_at hl 0 rfl) ?_
  refine r_get (k := 2) (v := .ref (ea E 29)) C hP oC_28 rfl iX2 (by decide) wm_t207 rfl rfl dX2_setTime_18 ?_
  refine lv_bipush (v := 6) hx hb dX2_setTime_21 (by decide) ?_
  refine lv_iload_n hx hb dX2_setTime_23 rfl (lv_at hl 2 rfl) ?_
  obtain ⟨h6, σ5, eσ5, hf⟩ := wrK_e hf
  refine r_ast C hP hS aC_29 h6 dX2_setTime_24 (fun H locs hP hS => ?_)
  rw [← eσ5] at hP
  cases hf
  exact r_vret C hP hS dX2_setTime_25
def fX2_clock (σ : St) : Option Int32 :=
(rdK 9 (σ 29) 6 fun v1 =>
some v1)
set_option maxHeartbeats 4000000 in
theorem c_fX2_clock {E : Ev} {l : Launch} (hj : jW true E) (σ : St) (sz : Nat) {rr : Int32} (hf : fX2_clock σ = some rr) : Met l yX2_clock (Cond.code yX2_clock cX2_clock 1 (some .int) :: gT) (rmD 1) (va_Pc [.ref (ea E 28)] (preW true E σ sz)) (QI true E rr σ sz) 0 0 (aW true E sz) := by
  refine r_entry (QI true E rr σ) hj (by decide) [.ref (ea E 28)] (Nat.le_of_ble_eq_true rfl) (fun p e s m args below meth c C => ?_)
  intro H locs ls hP hS hl
  have hl : lv_has ls 1 [(0, .ref (ea E 28))] := hl
  obtain ⟨hx, hb, hr, hml, hown, hts, hlocks, hK, hX, hj⟩ := id C
  unfold fX2_clock at hf
  refine lv_aload_n hx hb dX2_clock_0 rfl (lv_at hl 0 rfl) ?_
  refine r_get (k := 2) (v := .ref (ea E 29)) C hP oC_28 rfl iX2 (by decide) wm_t207 rfl rfl dX2_clock_1 ?_
  refine lv_bipush (v := 6) hx hb dX2_clock_4 (by decide) ?_
  have h2 := (rdK_e hf).1
  refine r_ald C hP aC_29 h2 dX2_clock_6 ?_
  refine lv_topi (fun v1 ev1 => ?_)
  replace hf := rdK_n ev1 hf
  cases hf
  exact r_iret C hP hS dX2_clock_7
def fX2_setCell_16 (σ : St) (x1 : Int32) (x2 : Int32) (x3 : Int32) (x4 : Int32) (y0 : Int32) (y1 : Int32) : Option St :=
(wrK 9 σ 29 y1 y0 fun σ1 =>
(wrK 9 σ1 29 1 x2 fun σ3 =>
(wrK 9 σ3 29 2 x1 fun σ5 =>
(wrK 9 σ5 29 3 x3 fun σ7 =>
(wrK 9 σ7 29 7 x4 fun σ9 =>
some σ9)))))
set_option maxHeartbeats 4000000 in
theorem b_fX2_setCell_16 {E : Ev} {l : Launch} {p : Program} {e : Env} {s : State} {m : MethodId} {args : Array Value} {below : List Frame} {meth : Method} {c : Code} (C : CX true E RX2 cX2_setCell 5 none p s m args meth c) {sr : St} : ∀ (σ : St) (x1 : Int32) (x2 : Int32) (x3 : Int32) (x4 : Int32) (y0 : Int32) (y1 : Int32), fX2_setCell_16 σ x1 x2 x3 x4 y0 y1 = some sr → GW true l (rmD 1) E 5 p e s m args below meth c (MQ below (QV true E sr s.heap.size) args s 0 0 (aW true E s.heap.size)) σ 16 [(0, .ref (ea E 28)), (1, .int x1), (2, .int x2), (3, .int x3), (4, .int x4)] [.int y0, .int y1, .ref (ea E 29)] := by
  intro σ x1 x2 x3 x4 y0 y1 hf H locs ls hP hS hl
  obtain ⟨hx, hb, hr, hml, hown, hts, hlocks, hK, hX, hj⟩ := id C
  unfold fX2_setCell_16 at hf
  obtain ⟨h2, σ1, eσ1, hf⟩ := wrK_e hf
  refine r_ast C hP hS aC_29 h2 dX2_setCell_16 (fun H locs hP hS => ?_)
  rw [← eσ1] at hP
  refine lv_aload_n hx hb dX2_setCell_17 rfl (lv_at hl 0 rfl) ?_
  refine r_get (k := 2) (v := .ref (ea E 29)) C hP oC_28 rfl iX2 (by decide) wm_t207 rfl rfl dX2_setCell_18 ?_
  refine lv_iconst (v := 1) hx hb dX2_setCell_21 (by decide) ?_
  refine lv_iload_n hx hb dX2_setCell_22 rfl (lv_at hl 2 rfl) ?_
  obtain ⟨h4, σ3, eσ3, hf⟩ := wrK_e hf
  refine r_ast C hP hS aC_29 h4 dX2_setCell_23 (fun H locs hP hS => ?_)
  rw [← eσ3] at hP
  refine lv_aload_n hx hb dX2_setCell_24 rfl (lv_at hl 0 rfl) ?_
  refine r_get (k := 2) (v := .ref (ea E 29)) C hP oC_28 rfl iX2 (by decide) wm_t207 rfl rfl dX2_setCell_25 ?_
  refine lv_iconst (v := 2) hx hb dX2_setCell_28 (by decide) ?_
  refine lv_iload_n hx hb dX2_setCell_29 rfl (lv_at hl 1 rfl) ?_
  obtain ⟨h6, σ5, eσ5, hf⟩ := wrK_e hf
  refine r_ast C hP hS aC_29 h6 dX2_setCell_30 (fun H locs hP hS => ?_)
  rw [← eσ5] at hP
  refine lv_aload_n hx hb dX2_setCell_31 rfl (lv_at hl 0 rfl) ?_
  refine r_get (k := 2) (v := .ref (ea E 29)) C hP oC_28 rfl iX2 (by decide) wm_t207 rfl rfl dX2_setCell_32 ?_
  refine lv_iconst (v := 3) hx hb dX2_setCell_35 (by decide) ?_
  refine lv_iload_n hx hb dX2_setCell_36 rfl (lv_at hl 3 rfl) ?_
  obtain ⟨h8, σ7, eσ7, hf⟩ := wrK_e hf
  refine r_ast C hP hS aC_29 h8 dX2_setCell_37 (fun H locs hP hS => ?_)
  rw [← eσ7] at hP
  refine lv_aload_n hx hb dX2_setCell_38 rfl (lv_at hl 0 rfl) ?_
  refine r_get (k := 2) (v := .ref (ea E 29)) C hP oC_28 rfl iX2 (by decide) wm_t207 rfl rfl dX2_setCell_39 ?_
  refine lv_bipush (v := 7) hx hb dX2_setCell_42 (by decide) ?_
  refine lv_iload hx hb dX2_setCell_44 (lv_at hl 4 rfl) ?_
  obtain ⟨h10, σ9, eσ9, hf⟩ := wrK_e hf
  refine r_ast C hP hS aC_29 h10 dX2_setCell_46 (fun H locs hP hS => ?_)
  rw [← eσ9] at hP
  cases hf
  exact r_vret C hP hS dX2_setCell_47
def fX2_setCell (σ : St) (a0 : Int32) (a1 : Int32) (a2 : Int32) (a3 : Int32) : Option St :=
(if a0 ≤ 0 then
fX2_setCell_16 σ a0 a1 a2 a3 0 0
else
(nz a0 (
fX2_setCell_16 σ a0 a1 a2 a3 (a1 / a0) 0)))
set_option maxHeartbeats 4000000 in
theorem c_fX2_setCell {E : Ev} {l : Launch} (hj : jW true E) (σ : St) (sz : Nat) (a0 : Int32) (a1 : Int32) (a2 : Int32) (a3 : Int32) {sr : St} (hf : fX2_setCell σ a0 a1 a2 a3 = some sr) : Met l yX2_setCell (Cond.code yX2_setCell cX2_setCell 5 none :: gT) (rmD 1) (va_Pc [.ref (ea E 28), .int a0, .int a1, .int a2, .int a3] (preW true E σ sz)) (QV true E sr sz) 0 0 (aW true E sz) := by
  refine r_entry (QV true E sr) hj (by decide) [.ref (ea E 28), .int a0, .int a1, .int a2, .int a3] (Nat.le_of_ble_eq_true rfl) (fun p e s m args below meth c C => ?_)
  intro H locs ls hP hS hl
  have hl : lv_has ls 5 [(0, .ref (ea E 28)), (1, .int a0), (2, .int a1), (3, .int a2), (4, .int a3)] := hl
  obtain ⟨hx, hb, hr, hml, hown, hts, hlocks, hK, hX, hj⟩ := id C
  unfold fX2_setCell at hf
  refine lv_aload_n hx hb dX2_setCell_0 rfl (lv_at hl 0 rfl) ?_
  refine r_get (k := 2) (v := .ref (ea E 29)) C hP oC_28 rfl iX2 (by decide) wm_t207 rfl rfl dX2_setCell_1 ?_
  refine lv_iconst (v := 0) hx hb dX2_setCell_4 (by decide) ?_
  refine lv_iload_n hx hb dX2_setCell_5 rfl (lv_at hl 1 rfl) ?_
  refine lv_if_le (tgt := 15) hx hb dX2_setCell_6 (by decide) (fun c1 => ?_) (fun c1 => ?_)
  · replace hf := it_t c1 hf
    refine lv_iconst (v := 0) hx hb dX2_setCell_15 (by decide) ?_
    exact b_fX2_setCell_16 C σ a0 a1 a2 a3 0 0 hf H locs ls hP hS (lv_sub hl [0, 1, 2, 3, 4] rfl)
  · replace hf := it_f c1 hf
    refine lv_iload_n hx hb dX2_setCell_9 rfl (lv_at hl 2 rfl) ?_
    refine lv_iload_n hx hb dX2_setCell_10 rfl (lv_at hl 1 rfl) ?_
    obtain ⟨h2, hf⟩ := nz_e hf
    refine lv_idiv hx hb dX2_setCell_11 h2 ?_
    refine lv_goto (tgt := 16) hx hb dX2_setCell_12 (by decide) ?_
    exact b_fX2_setCell_16 C σ a0 a1 a2 a3 (a1 / a0) 0 hf H locs ls hP hS (lv_sub hl [0, 1, 2, 3, 4] rfl)
def fX2_setLight_15 (σ : St) (y0 : Int32) (y1 : Int32) : Option St :=
(wrK 9 σ 29 y1 y0 fun σ1 =>
some σ1)
set_option maxHeartbeats 4000000 in
theorem b_fX2_setLight_15 {E : Ev} {l : Launch} {p : Program} {e : Env} {s : State} {m : MethodId} {args : Array Value} {below : List Frame} {meth : Method} {c : Code} (C : CX true E RX2 cX2_setLight 2 none p s m args meth c) {sr : St} : ∀ (σ : St) (y0 : Int32) (y1 : Int32), fX2_setLight_15 σ y0 y1 = some sr → GW true l (rmD 1) E 2 p e s m args below meth c (MQ below (QV true E sr s.heap.size) args s 0 0 (aW true E s.heap.size)) σ 15 [] [.int y0, .int y1, .ref (ea E 29)] := by
  intro σ y0 y1 hf H locs ls hP hS hl
  obtain ⟨hx, hb, hr, hml, hown, hts, hlocks, hK, hX, hj⟩ := id C
  unfold fX2_setLight_15 at hf
  obtain ⟨h2, σ1, eσ1, hf⟩ := wrK_e hf
  refine r_ast C hP hS aC_29 h2 dX2_setLight_15 (fun H locs hP hS => ?_)
  rw [← eσ1] at hP
  cases hf
  exact r_vret C hP hS dX2_setLight_16
def fX2_setLight (σ : St) (a0 : Int32) : Option St :=
(if a0 = 0 then
fX2_setLight_15 σ 0 8
else
fX2_setLight_15 σ 1 8)
set_option maxHeartbeats 4000000 in
theorem c_fX2_setLight {E : Ev} {l : Launch} (hj : jW true E) (σ : St) (sz : Nat) (a0 : Int32) {sr : St} (hf : fX2_setLight σ a0 = some sr) : Met l yX2_setLight (Cond.code yX2_setLight cX2_setLight 2 none :: gT) (rmD 1) (va_Pc [.ref (ea E 28), .int a0] (preW true E σ sz)) (QV true E sr sz) 0 0 (aW true E sz) := by
  refine r_entry (QV true E sr) hj (by decide) [.ref (ea E 28), .int a0] (Nat.le_of_ble_eq_true rfl) (fun p e s m args below meth c C => ?_)
  intro H locs ls hP hS hl
  have hl : lv_has ls 2 [(0, .ref (ea E 28)), (1, .int a0)] := hl
  obtain ⟨hx, hb, hr, hml, hown, hts, hlocks, hK, hX, hj⟩ := id C
  unfold fX2_setLight at hf
  refine lv_aload_n hx hb dX2_setLight_0 rfl (lv_at hl 0 rfl) ?_
  refine r_get (k := 2) (v := .ref (ea E 29)) C hP oC_28 rfl iX2 (by decide) wm_t207 rfl rfl dX2_setLight_1 ?_
  refine lv_bipush (v := 8) hx hb dX2_setLight_4 (by decide) ?_
  refine lv_iload_n hx hb dX2_setLight_6 rfl (lv_at hl 1 rfl) ?_
  refine lv_if_eq (tgt := 14) hx hb dX2_setLight_7 (by decide) (fun c1 => ?_) (fun c1 => ?_)
  · replace hf := it_t c1 hf
    refine lv_iconst (v := 0) hx hb dX2_setLight_14 (by decide) ?_
    exact b_fX2_setLight_15 C σ 0 8 hf H locs ls hP hS (lv_sub hl [] rfl)
  · replace hf := it_f c1 hf
    refine lv_iconst (v := 1) hx hb dX2_setLight_10 (by decide) ?_
    refine lv_goto (tgt := 15) hx hb dX2_setLight_11 (by decide) ?_
    exact b_fX2_setLight_15 C σ 1 8 hf H locs ls hP hS (lv_sub hl [] rfl)
def fX3_nearTo_5B (σ : St) (rec5 : Int32 → Int32 → Int32 → Int32 → Option Int32) (x1 : Int32) (x2 : Int32) (x3 : Int32) (x4 : Int32) : Option Int32 :=
(if 8 ≤ x4 then
some (x3 &&& 255)
else
(rdK 8 (σ 39) x4 fun v2 =>
(if v2 = (-1) then
rec5 x1 x2 x3 (x4 + 1)
else
(rdK 8 (σ 39) x4 fun v5 =>
(if x2 < (fX0_distance v5 x1) then
rec5 x1 x2 x3 (x4 + 1)
else
rec5 x1 x2 (x3 ||| (1 <<< (x4 &&& 31))) (x4 + 1))))))
set_option maxHeartbeats 4000000 in
theorem b_fX3_nearTo_5B {E : Ev} {l : Launch} {p : Program} {e : Env} {s : State} {m : MethodId} {args : Array Value} {below : List Frame} {meth : Method} {c : Code} (σ : St) (C : CX true E RX3 cX3_nearTo 5 (some .int) p s m args meth c) {rr : Int32} (rec5 : Int32 → Int32 → Int32 → Int32 → Option Int32) (hr5 : ∀  (x1 : Int32) (x2 : Int32) (x3 : Int32) (x4 : Int32), rec5 x1 x2 x3 x4 = some rr → GW true l (rmD 3) E 5 p e s m args below meth c (MQ below (QI true E rr σ s.heap.size) args s 0 0 (aW true E s.heap.size)) σ 5 [(0, .ref (ea E 38)), (1, .int x1), (2, .int x2), (3, .int x3), (4, .int x4)] []) : ∀  (x1 : Int32) (x2 : Int32) (x3 : Int32) (x4 : Int32), fX3_nearTo_5B σ rec5 x1 x2 x3 x4 = some rr → GW true l (rmD 3) E 5 p e s m args below meth c (MQ below (QI true E rr σ s.heap.size) args s 0 0 (aW true E s.heap.size)) σ 5 [(0, .ref (ea E 38)), (1, .int x1), (2, .int x2), (3, .int x3), (4, .int x4)] [] := by
  intro x1 x2 x3 x4 hf H locs ls hP hS hl
  obtain ⟨hx, hb, hr, hml, hown, hts, hlocks, hK, hX, hj⟩ := id C
  unfold fX3_nearTo_5B at hf
  refine lv_iload hx hb dX3_nearTo_5 (lv_at hl 4 rfl) ?_
  refine lv_bipush (v := 8) hx hb dX3_nearTo_7 (by decide) ?_
  refine lv_icmp_ge (tgt := 51) hx hb dX3_nearTo_9 (by decide) (fun c1 => ?_) (fun c1 => ?_)
  · replace hf := it_t c1 hf
    refine lv_iload_n hx hb dX3_nearTo_51 rfl (lv_at hl 3 rfl) ?_
    refine lv_sipush (v := 255) hx hb dX3_nearTo_52 (by decide) ?_
    refine lv_iand hx hb dX3_nearTo_55 ?_
    cases hf
    exact r_iret C hP hS dX3_nearTo_56
  · replace hf := it_f c1 hf
    refine lv_aload_n hx hb dX3_nearTo_12 rfl (lv_at hl 0 rfl) ?_
    refine r_get (k := 0) (v := .ref (ea E 39)) C hP oC_38 rfl iX3 (by decide) wm_t270 rfl rfl dX3_nearTo_13 ?_
    refine lv_iload hx hb dX3_nearTo_16 (lv_at hl 4 rfl) ?_
    have h3 := (rdK_e hf).1
    refine r_ald C hP aC_39 h3 dX3_nearTo_18 ?_
    refine lv_topi (fun v2 ev2 => ?_)
    replace hf := rdK_n ev2 hf
    refine lv_iconst (v := (-1)) hx hb dX3_nearTo_19 (by decide) ?_
    refine lv_icmp_eq (tgt := 45) hx hb dX3_nearTo_20 (by decide) (fun c4 => ?_) (fun c4 => ?_)
    · replace hf := it_t c4 hf
      refine lv_iinc (v := (x4 + 1)) (lv' := [(4, .int (x4 + 1)), (0, .ref (ea E 38)), (1, .int x1), (2, .int x2), (3, .int x3)]) hx hb dX3_nearTo_45 hl (k := 4) rfl rfl (by decide) rfl (fun ls hl => ?_)
      refine lv_goto (tgt := 5) hx hb dX3_nearTo_48 (by decide) ?_
      exact hr5 x1 x2 x3 (x4 + 1) hf H locs ls hP hS (lv_sub hl [1, 2, 3, 4, 0] rfl)
    · replace hf := it_f c4 hf
      refine lv_aload_n hx hb dX3_nearTo_23 rfl (lv_at hl 0 rfl) ?_
      refine r_get (k := 0) (v := .ref (ea E 39)) C hP oC_38 rfl iX3 (by decide) wm_t270 rfl rfl dX3_nearTo_24 ?_
      refine lv_iload hx hb dX3_nearTo_27 (lv_at hl 4 rfl) ?_
      have h6 := (rdK_e hf).1
      refine r_ald C hP aC_39 h6 dX3_nearTo_29 ?_
      refine lv_topi (fun v5 ev5 => ?_)
      replace hf := rdK_n ev5 hf
      refine lv_iload_n hx hb dX3_nearTo_30 rfl (lv_at hl 1 rfl) ?_
      refine r_cSi (n := 2) (As := [.int v5, .int x1]) (rest := []) C (c_fX0_distance hj σ H.size v5 x1) gs_RX3_46 (by decide +kernel) (rmD_le (by decide) (by decide)) rfl rfl (Nat.le_of_ble_eq_true rfl) dX3_nearTo_31 hP hS hl.1 (fun H locs hP hS => ?_)
      refine lv_iload_n hx hb dX3_nearTo_34 rfl (lv_at hl 2 rfl) ?_
      refine lv_icmp_gt (tgt := 45) hx hb dX3_nearTo_35 (by decide) (fun c7 => ?_) (fun c7 => ?_)
      · replace hf := it_t c7 hf
        refine lv_iinc (v := (x4 + 1)) (lv' := [(4, .int (x4 + 1)), (0, .ref (ea E 38)), (1, .int x1), (2, .int x2), (3, .int x3)]) hx hb dX3_nearTo_45 hl (k := 4) rfl rfl (by decide) rfl (fun ls hl => ?_)
        refine lv_goto (tgt := 5) hx hb dX3_nearTo_48 (by decide) ?_
        exact hr5 x1 x2 x3 (x4 + 1) hf H locs ls hP hS (lv_sub hl [1, 2, 3, 4, 0] rfl)
      · replace hf := it_f c7 hf
        refine lv_iload_n hx hb dX3_nearTo_38 rfl (lv_at hl 3 rfl) ?_
        refine lv_iconst (v := 1) hx hb dX3_nearTo_39 (by decide) ?_
        refine lv_iload hx hb dX3_nearTo_40 (lv_at hl 4 rfl) ?_
        refine lv_ishl hx hb dX3_nearTo_42 ?_
        refine lv_ior hx hb dX3_nearTo_43 ?_
        refine lv_istore_n (lv' := [(3, .int (x3 ||| (1 <<< (x4 &&& 31)))), (0, .ref (ea E 38)), (1, .int x1), (2, .int x2), (4, .int x4)]) hx hb dX3_nearTo_44 rfl hl (by decide) rfl (fun ls hl => ?_)
        refine lv_iinc (v := (x4 + 1)) (lv' := [(4, .int (x4 + 1)), (3, .int (x3 ||| (1 <<< (x4 &&& 31)))), (0, .ref (ea E 38)), (1, .int x1), (2, .int x2)]) hx hb dX3_nearTo_45 hl (k := 4) rfl rfl (by decide) rfl (fun ls hl => ?_)
        refine lv_goto (tgt := 5) hx hb dX3_nearTo_48 (by decide) ?_
        exact hr5 x1 x2 (x3 ||| (1 <<< (x4 &&& 31))) (x4 + 1) hf H locs ls hP hS (lv_sub hl [2, 3, 4, 1, 0] rfl)
def fX3_nearTo_5 (σ : St) : Nat → Int32 → Int32 → Int32 → Int32 → Option Int32
  | 0 => fun _ _ _ _ => none
  | n + 1 => fun x1 x2 x3 x4 => fX3_nearTo_5B σ (fX3_nearTo_5 σ n) x1 x2 x3 x4
theorem b_fX3_nearTo_5 {E : Ev} {l : Launch} {p : Program} {e : Env} {s : State} {m : MethodId} {args : Array Value} {below : List Frame} {meth : Method} {c : Code} (σ : St) (C : CX true E RX3 cX3_nearTo 5 (some .int) p s m args meth c) {rr : Int32} : ∀ (n : Nat) (x1 : Int32) (x2 : Int32) (x3 : Int32) (x4 : Int32), fX3_nearTo_5 σ n x1 x2 x3 x4 = some rr → GW true l (rmD 3) E 5 p e s m args below meth c (MQ below (QI true E rr σ s.heap.size) args s 0 0 (aW true E s.heap.size)) σ 5 [(0, .ref (ea E 38)), (1, .int x1), (2, .int x2), (3, .int x3), (4, .int x4)] [] := by
  intro n
  induction n with
  | zero => intro x1 x2 x3 x4 hf; have hf : (none : Option _) = some _ := hf; cases hf
  | succ n ih => intro x1 x2 x3 x4 hf; exact b_fX3_nearTo_5B σ C (fX3_nearTo_5 σ n) ih x1 x2 x3 x4 hf
def fX3_nearTo (σ : St) (a0 : Int32) (a1 : Int32) : Option Int32 :=
fX3_nearTo_5 σ FU a0 a1 0 0
set_option maxHeartbeats 4000000 in
theorem c_fX3_nearTo {E : Ev} {l : Launch} (hj : jW true E) (σ : St) (sz : Nat) (a0 : Int32) (a1 : Int32) {rr : Int32} (hf : fX3_nearTo σ a0 a1 = some rr) : Met l yX3_nearTo (Cond.code yX3_nearTo cX3_nearTo 5 (some .int) :: gT) (rmD 3) (va_Pc [.ref (ea E 38), .int a0, .int a1] (preW true E σ sz)) (QI true E rr σ sz) 0 0 (aW true E sz) := by
  refine r_entry (QI true E rr σ) hj (by decide) [.ref (ea E 38), .int a0, .int a1] (Nat.le_of_ble_eq_true rfl) (fun p e s m args below meth c C => ?_)
  intro H locs ls hP hS hl
  have hl : lv_has ls 5 [(0, .ref (ea E 38)), (1, .int a0), (2, .int a1)] := hl
  obtain ⟨hx, hb, hr, hml, hown, hts, hlocks, hK, hX, hj⟩ := id C
  unfold fX3_nearTo at hf
  refine lv_iconst (v := 0) hx hb dX3_nearTo_0 (by decide) ?_
  refine lv_istore_n (lv' := [(3, .int 0), (0, .ref (ea E 38)), (1, .int a0), (2, .int a1)]) hx hb dX3_nearTo_1 rfl hl (by decide) rfl (fun ls hl => ?_)
  refine lv_iconst (v := 0) hx hb dX3_nearTo_2 (by decide) ?_
  refine lv_istore (lv' := [(4, .int 0), (3, .int 0), (0, .ref (ea E 38)), (1, .int a0), (2, .int a1)]) hx hb dX3_nearTo_3 hl (by decide) rfl (fun ls hl => ?_)
  exact b_fX3_nearTo_5 σ C FU a0 a1 0 0 hf H locs ls hP hS (lv_sub hl [2, 3, 4, 1, 0] rfl)
def fX3_isFair_2B (σ : St) (rec2 : Int32 → Int32 → Option Int32) (x1 : Int32) (x2 : Int32) : Option Int32 :=
(if 256 ≤ x2 then
some 1
else
(rdK 256 (σ 40) x2 fun v2 =>
(if v2 = 0 then
rec2 x1 (x2 + 1)
else
(if (x2 &&& x1) = 0 then
some 0
else
rec2 x1 (x2 + 1)))))
set_option maxHeartbeats 4000000 in
theorem b_fX3_isFair_2B {E : Ev} {l : Launch} {p : Program} {e : Env} {s : State} {m : MethodId} {args : Array Value} {below : List Frame} {meth : Method} {c : Code} (σ : St) (C : CX true E RX3 cX3_isFair 3 (some .boolean) p s m args meth c) {rr : Int32} (rec2 : Int32 → Int32 → Option Int32) (hr2 : ∀  (x1 : Int32) (x2 : Int32), rec2 x1 x2 = some rr → GW true l (rmD 1) E 3 p e s m args below meth c (MQ below (QI true E rr σ s.heap.size) args s 0 0 (aW true E s.heap.size)) σ 2 [(0, .ref (ea E 38)), (1, .int x1), (2, .int x2)] []) : ∀  (x1 : Int32) (x2 : Int32), fX3_isFair_2B σ rec2 x1 x2 = some rr → GW true l (rmD 1) E 3 p e s m args below meth c (MQ below (QI true E rr σ s.heap.size) args s 0 0 (aW true E s.heap.size)) σ 2 [(0, .ref (ea E 38)), (1, .int x1), (2, .int x2)] [] := by
  intro x1 x2 hf H locs ls hP hS hl
  obtain ⟨hx, hb, hr, hml, hown, hts, hlocks, hK, hX, hj⟩ := id C
  unfold fX3_isFair_2B at hf
  refine lv_iload_n hx hb dX3_isFair_2 rfl (lv_at hl 2 rfl) ?_
  refine lv_sipush (v := 256) hx hb dX3_isFair_3 (by decide) ?_
  refine lv_icmp_ge (tgt := 32) hx hb dX3_isFair_6 (by decide) (fun c1 => ?_) (fun c1 => ?_)
  · replace hf := it_t c1 hf
    refine lv_iconst (v := 1) hx hb dX3_isFair_32 (by decide) ?_
    cases hf
    exact r_zret C rfl hP hS dX3_isFair_33
  · replace hf := it_f c1 hf
    refine lv_aload_n hx hb dX3_isFair_9 rfl (lv_at hl 0 rfl) ?_
    refine r_get (k := 1) (v := .ref (ea E 40)) C hP oC_38 rfl iX3 (by decide) wm_t271 rfl rfl dX3_isFair_10 ?_
    refine lv_iload_n hx hb dX3_isFair_13 rfl (lv_at hl 2 rfl) ?_
    have h3 := (rdK_e hf).1
    refine r_zald C hP aC_40 h3 dX3_isFair_14 ?_
    refine lv_topi (fun v2 ev2 => ?_)
    replace hf := rdK_n ev2 hf
    refine lv_if_eq (tgt := 26) hx hb dX3_isFair_15 (by decide) (fun c4 => ?_) (fun c4 => ?_)
    · replace hf := it_t c4 hf
      refine lv_iinc (v := (x2 + 1)) (lv' := [(2, .int (x2 + 1)), (0, .ref (ea E 38)), (1, .int x1)]) hx hb dX3_isFair_26 hl (k := 2) rfl rfl (by decide) rfl (fun ls hl => ?_)
      refine lv_goto (tgt := 2) hx hb dX3_isFair_29 (by decide) ?_
      exact hr2 x1 (x2 + 1) hf H locs ls hP hS (lv_sub hl [1, 2, 0] rfl)
    · replace hf := it_f c4 hf
      refine lv_iload_n hx hb dX3_isFair_18 rfl (lv_at hl 2 rfl) ?_
      refine lv_iload_n hx hb dX3_isFair_19 rfl (lv_at hl 1 rfl) ?_
      refine lv_iand hx hb dX3_isFair_20 ?_
      refine lv_if_ne (tgt := 26) hx hb dX3_isFair_21 (by decide) (fun c5 => ?_) (fun c5 => ?_)
      · replace hf := it_f c5 hf
        refine lv_iinc (v := (x2 + 1)) (lv' := [(2, .int (x2 + 1)), (0, .ref (ea E 38)), (1, .int x1)]) hx hb dX3_isFair_26 hl (k := 2) rfl rfl (by decide) rfl (fun ls hl => ?_)
        refine lv_goto (tgt := 2) hx hb dX3_isFair_29 (by decide) ?_
        exact hr2 x1 (x2 + 1) hf H locs ls hP hS (lv_sub hl [1, 2, 0] rfl)
      · replace hf := it_t c5 hf
        refine lv_iconst (v := 0) hx hb dX3_isFair_24 (by decide) ?_
        cases hf
        exact r_zret C rfl hP hS dX3_isFair_25
def fX3_isFair_2 (σ : St) : Nat → Int32 → Int32 → Option Int32
  | 0 => fun _ _ => none
  | n + 1 => fun x1 x2 => fX3_isFair_2B σ (fX3_isFair_2 σ n) x1 x2
theorem b_fX3_isFair_2 {E : Ev} {l : Launch} {p : Program} {e : Env} {s : State} {m : MethodId} {args : Array Value} {below : List Frame} {meth : Method} {c : Code} (σ : St) (C : CX true E RX3 cX3_isFair 3 (some .boolean) p s m args meth c) {rr : Int32} : ∀ (n : Nat) (x1 : Int32) (x2 : Int32), fX3_isFair_2 σ n x1 x2 = some rr → GW true l (rmD 1) E 3 p e s m args below meth c (MQ below (QI true E rr σ s.heap.size) args s 0 0 (aW true E s.heap.size)) σ 2 [(0, .ref (ea E 38)), (1, .int x1), (2, .int x2)] [] := by
  intro n
  induction n with
  | zero => intro x1 x2 hf; have hf : (none : Option _) = some _ := hf; cases hf
  | succ n ih => intro x1 x2 hf; exact b_fX3_isFair_2B σ C (fX3_isFair_2 σ n) ih x1 x2 hf
def fX3_isFair (σ : St) (a0 : Int32) : Option Int32 :=
fX3_isFair_2 σ FU a0 0
set_option maxHeartbeats 4000000 in
theorem c_fX3_isFair {E : Ev} {l : Launch} (hj : jW true E) (σ : St) (sz : Nat) (a0 : Int32) {rr : Int32} (hf : fX3_isFair σ a0 = some rr) : Met l yX3_isFair (Cond.code yX3_isFair cX3_isFair 3 (some .boolean) :: gT) (rmD 1) (va_Pc [.ref (ea E 38), .int a0] (preW true E σ sz)) (QI true E rr σ sz) 0 0 (aW true E sz) := by
  refine r_entry (QI true E rr σ) hj (by decide) [.ref (ea E 38), .int a0] (Nat.le_of_ble_eq_true rfl) (fun p e s m args below meth c C => ?_)
  intro H locs ls hP hS hl
  have hl : lv_has ls 3 [(0, .ref (ea E 38)), (1, .int a0)] := hl
  obtain ⟨hx, hb, hr, hml, hown, hts, hlocks, hK, hX, hj⟩ := id C
  unfold fX3_isFair at hf
  refine lv_iconst (v := 0) hx hb dX3_isFair_0 (by decide) ?_
  refine lv_istore_n (lv' := [(2, .int 0), (0, .ref (ea E 38)), (1, .int a0)]) hx hb dX3_isFair_1 rfl hl (by decide) rfl (fun ls hl => ?_)
  exact b_fX3_isFair_2 σ C FU a0 0 hf H locs ls hP hS (lv_sub hl [1, 2, 0] rfl)
def fX4_hasRoom (σ : St) (a0 : Int32) : Int32 :=
(if 600 < ((σ 24 1) + a0) then
0
else
1)
set_option maxHeartbeats 4000000 in
theorem c_fX4_hasRoom {E : Ev} {l : Launch} (hj : jW true E) (σ : St) (sz : Nat) (a0 : Int32) : Met l yX4_hasRoom (Cond.code yX4_hasRoom cX4_hasRoom 2 (some .boolean) :: gT) (rmD 1) (va_Pc [.ref (ea E 24), .int a0] (preW true E σ sz)) (QI true E (fX4_hasRoom σ a0) σ sz) 0 0 (aW true E sz) := by
  refine r_entry (QI true E (fX4_hasRoom σ a0) σ) hj (by decide) [.ref (ea E 24), .int a0] (Nat.le_of_ble_eq_true rfl) (fun p e s m args below meth c C => ?_)
  intro H locs ls hP hS hl
  have hl : lv_has ls 2 [(0, .ref (ea E 24)), (1, .int a0)] := hl
  obtain ⟨hx, hb, hr, hml, hown, hts, hlocks, hK, hX, hj⟩ := id C
  generalize hf : fX4_hasRoom σ a0 = rr
  unfold fX4_hasRoom at hf
  refine lv_aload_n hx hb dX4_hasRoom_0 rfl (lv_at hl 0 rfl) ?_
  refine r_get (k := 1) (v := .int (σ 24 1)) C hP oC_24 rfl iX4 (by decide) wm_t163 rfl rfl dX4_hasRoom_1 ?_
  refine lv_iload_n hx hb dX4_hasRoom_4 rfl (lv_at hl 1 rfl) ?_
  refine lv_iadd hx hb dX4_hasRoom_5 ?_
  refine lv_sipush (v := 600) hx hb dX4_hasRoom_6 (by decide) ?_
  refine lv_icmp_gt (tgt := 16) hx hb dX4_hasRoom_9 (by decide) (fun c1 => ?_) (fun c1 => ?_)
  · replace hf := it_t c1 hf
    refine lv_iconst (v := 0) hx hb dX4_hasRoom_16 (by decide) ?_
    subst hf
    exact r_zret C rfl hP hS dX4_hasRoom_17
  · replace hf := it_f c1 hf
    refine lv_iconst (v := 1) hx hb dX4_hasRoom_12 (by decide) ?_
    refine lv_goto (tgt := 17) hx hb dX4_hasRoom_13 (by decide) ?_
    subst hf
    exact r_zret C rfl hP hS dX4_hasRoom_17
theorem z_fX4_hasRoom (σ : St) (a0 : Int32) : fX4_hasRoom σ a0 = 0 ∨ fX4_hasRoom σ a0 = 1 := by
  unfold fX4_hasRoom
  repeat' split
  all_goals first | exact Or.inl rfl | exact Or.inr rfl
