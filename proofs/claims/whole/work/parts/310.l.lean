def s0C : St := fun k => match k with
  | 0 => fun j => match j with | 13 => (-1) | _ => 0
  | 1 => (fun _ => 0)
  | 2 => fun _ => 0
  | 3 => (fun _ => 0)
  | 4 => (fun _ => 0)
  | 5 => fun j => match j with | 0 => 64 | 1 => 4 | 2 => 1 | _ => 0
  | 6 => (fun _ => 0)
  | 7 => (fun _ => 0)
  | 8 => (fun _ => 0)
  | 9 => (fun _ => 0)
  | 10 => fun j => match j with | 2 => 60 | 6 => (-1) | _ => 0
  | 11 => ar_X5_init_0
  | 12 => fun j => match j with | 0 => 24 | 1 => 6 | _ => 0
  | 13 => (fun _ => 0)
  | 14 => (fun _ => 0)
  | 15 => (fun _ => 0)
  | 16 => (fun _ => 0)
  | 17 => fun j => match j with | 2 => 60 | 6 => (-1) | _ => 0
  | 18 => ar_X5_init_0
  | 19 => fun j => match j with | 0 => 24 | 1 => 6 | _ => 0
  | 20 => (fun _ => 0)
  | 21 => (fun _ => 0)
  | 22 => (fun _ => 0)
  | 23 => (fun _ => 0)
  | 24 => fun j => match j with | 7 => 44 | 9 => (-1) | _ => 0
  | 25 => (fun _ => 0)
  | 26 => (fun _ => 0)
  | 27 => (fun _ => 0)
  | 28 => fun j => match j with | 0 => 51 | _ => 0
  | 29 => (fun _ => 0)
  | 30 => fun j => match j with | 0 => 58 | _ => 0
  | 31 => (fun _ => 0)
  | 32 => (fun _ => 0)
  | 33 => (fun _ => 0)
  | 34 => fun j => match j with | 0 => 3 | _ => 0
  | 35 => (fun _ => 0)
  | 36 => (fun _ => 0)
  | 37 => (fun _ => 0)
  | 38 => fun _ => 0
  | 39 => ar_X3_init_0
  | 40 => (fun _ => 0)
  | 41 => fun _ => 0
  | 42 => (fun _ => 0)
  | 43 => (fun _ => 0)
  | 44 => fun _ => 0
  | 45 => (fun _ => 0)
  | 46 => (fun _ => 0)
  | 47 => (fun _ => 0)
  | 48 => (fun _ => 0)
  | 49 => (fun _ => 0)
  | 50 => (fun _ => 0)
  | 51 => fun _ => 0
  | 52 => (fun _ => 0)
  | 53 => (fun _ => 0)
  | 54 => (fun _ => 0)
  | 55 => (fun _ => 0)
  | 56 => (fun _ => 0)
  | 57 => (fun _ => 0)
  | 58 => fun _ => 0
  | 59 => (fun _ => 0)
  | 60 => (fun _ => 0)
  | 61 => (fun _ => 0)
  | 62 => (fun _ => 0)
  | 63 => (fun _ => 0)
  | 64 => (fun _ => 0)
  | _ => fun _ => 0
def s0M : St := fun k => match k with
  | 0 => fun j => match j with | 40 => (-1) | 45 => 60 | 52 => 3 | 53 => (-1) | _ => 0
  | 1 => (fun _ => 0)
  | 2 => (fun _ => 0)
  | 3 => (fun _ => 0)
  | 4 => (fun _ => 0)
  | 5 => (fun _ => 0)
  | 6 => (fun _ => 0)
  | 7 => (fun _ => 0)
  | 8 => (fun _ => 0)
  | 9 => (fun _ => 0)
  | 10 => (fun _ => 0)
  | 11 => (fun _ => 0)
  | 12 => ar_X11_init_0
  | 13 => (fun _ => 0)
  | 14 => ar_X11_init_1
  | 15 => (fun _ => 0)
  | 16 => (fun _ => 0)
  | 17 => (fun _ => 0)
  | 18 => (fun _ => 0)
  | 19 => (fun _ => 0)
  | 20 => (fun _ => 0)
  | 21 => (fun _ => 0)
  | 22 => (fun _ => 0)
  | 23 => (fun _ => 0)
  | 24 => (fun _ => 0)
  | 25 => (fun _ => 0)
  | 26 => (fun _ => 0)
  | 27 => ar_X11_init_2
  | 28 => (fun _ => 0)
  | 29 => (fun _ => 0)
  | 30 => (fun _ => 0)
  | 31 => (fun _ => 0)
  | 32 => (fun _ => 0)
  | 33 => ar_X11_init_3
  | 34 => (fun _ => 0)
  | 35 => (fun _ => 0)
  | 36 => (fun _ => 0)
  | 37 => (fun _ => 0)
  | 38 => (fun _ => 0)
  | 39 => (fun _ => 0)
  | _ => fun _ => 0
def permC : List Nat := [0, 64, 1, 2, 3, 4, 5, 6, 7, 8, 9, 15, 10, 11, 12, 13, 14, 16, 22, 17, 18, 19, 20, 21, 23, 24, 25, 26, 34, 42, 43, 51, 52, 53, 54, 55, 56, 57, 58, 59, 60, 61, 62, 63, 27, 28, 29, 30, 31, 32, 33, 35, 36, 37, 38, 39, 40, 41, 44, 45, 46, 47, 48, 49, 50]
def aC (u : Nat → Nat) : Nat → Nat := fun k => u (permC.getD k 0)
set_option maxRecDepth 100000 in
set_option maxHeartbeats 8000000 in
theorem st_eqC (D : va_G) (cI cZ : ClassId) (u kK kV : Nat → Nat) : permC.filterMap (fun i => (wl_X10_init cI cZ u)[i]?) = wd true (mkE D cI cZ (aC u) kK kV) s0C := rfl
set_option maxRecDepth 100000 in
set_option maxHeartbeats 8000000 in
theorem st_eqM (D : va_G) (cI cZ : ClassId) (u kK kV : Nat → Nat) : wl_X11_init cI cZ u = wd false (mkE D cI cZ u kK kV) s0M := rfl
def OPS (Rel : St → St → Prop) : Prop := op_0 Rel ∧ op_1 Rel ∧ op_2 Rel ∧ op_3 Rel ∧ op_4 Rel ∧ op_5 Rel ∧ op_6 Rel ∧ op_7 Rel ∧ op_8 Rel ∧ op_9 Rel ∧ op_10 Rel ∧ op_11 Rel ∧ op_12 Rel ∧ op_13 Rel ∧ op_14 Rel ∧ op_15 Rel ∧ op_16 Rel ∧ op_17 Rel ∧ op_18 Rel ∧ op_19 Rel ∧ op_20 Rel ∧ op_21 Rel ∧ op_22 Rel ∧ op_23 Rel ∧ op_24 Rel ∧ op_25 Rel ∧ op_26 Rel ∧ op_27 Rel ∧ op_28 Rel ∧ op_29 Rel
theorem law_in {i L j : Nat} (h : i + 6 ≤ L) (hL : L ≤ 3072) (hj : j < 6) : vp_in (nI i + nI j) L := by
  rw [nI_add]; exact vp_in_nI (by omega) (by omega)
set_option maxHeartbeats 8000000 in
theorem law_loop (Rel : St → St → Prop) (hops : OPS Rel) {p : Program} {l : Launch} {e : Env} {s : State} {m : MethodId} {below : List Frame} {meth : Method} {c : Code} {E1 E2 : Ev} {b L : Nat} {xs : Nat → Int32} {cells slots : Nat} (hL : L ≤ 3072) (C : LC E1 E2 p s m c b L xs) (hr : meth.sig.returnType = ret) (hlocks : meth.locks = false) (hcs : cells ≤ room_1.cells ∧ slots ≤ room_1.slots) :
    ∀ (n i : Nat) (x3 : Int32), x3 = nI i → i ≤ L + 6 → L + 6 < i + 6 * n → ∀ (σ τ : St), Rel σ τ → ∀ (H : Heap) (locs : List Loc) (ls : Array Slot), va_P (eD E1) vwCl (wd true E1 σ) H → va_P (eD E2) vwCl (wd false E2 τ) H → va_S (fun q => s.heap.size ≤ q) s.heap H locs → lv_has ls 4 [(0, .ref b), (1, .ref (ea E1 0)), (2, .ref (ea E2 0)), (3, .int x3)] → W p l e room_1 s m #[Value.ref b] below meth c H locs cells slots (lw_Z below #[Value.ref b] s) (F0 m 18 ls []) := by
  intro n
  induction n with
  | zero => intro i x3 h1 h2 h3; omega
  | succ n ih =>
    intro i x3 ex3 hi hin σ τ hRel H locs ls hP hPm hS hl
    obtain ⟨S, hXs, hbl, hKK, hX, hjj, hdis, hin1, hin2⟩ := id C
    have hbA : ¬ (fun q : Nat => s.heap.size ≤ q) b := Nat.not_le.mpr hbl
    obtain ⟨hx, hb, hml, hown, hts⟩ := id S
    refine lv_iload_n hx hb dL_law_18 rfl (lv_at hl 3 rfl) ?_
    refine lv_aload_n hx hb dL_law_19 rfl (lv_at hl 0 rfl) ?_
    refine va_slen hx hb hXs hbl hbA hS dL_law_20 ?_
    refine lv_bipush (v := 6) hx hb dL_law_21 (by decide) ?_
    refine lv_isub hx hb dL_law_23 ?_
    have key : (Int32.ofNat L - 6 : Int32).toInt = (L : Int) - 6 := pk_sub_toInt (a := L) (b := 6) (by omega) (by omega)
    have keyi : x3.toInt = (i : Int) := by rw [ex3]; exact nI_toInt (by omega)
    refine lv_icmp_gt (tgt := 1270) hx hb dL_law_24 (by decide) (fun c1 => ?_) (fun c1 => ?_)
    · refine lv_iconst (v := 1) hx hb dL_law_1270 (by decide) ?_
      refine va_forget (fun q hq => hS.2.2 q hq) ?_
      refine W.widen (k := 600000) (n := 7302250) hcs.1 hcs.2 ?_
      exact lw_ret hx hb hr hlocks dL_law_1271
    · have hi6 : i + 6 ≤ L := by
        rw [Int32.lt_iff_toInt_lt, key, keyi] at c1
        omega
      have h0 : vp_in x3 L := by rw [ex3]; exact vp_in_nI (by omega) (by omega)
      have h1 : vp_in (x3 + 1) L := by rw [ex3]; exact law_in (j := 1) hi6 hL (by decide)
      have h2 : vp_in (x3 + 2) L := by rw [ex3]; exact law_in (j := 2) hi6 hL (by decide)
      have h3 : vp_in (x3 + 3) L := by rw [ex3]; exact law_in (j := 3) hi6 hL (by decide)
      have h4 : vp_in (x3 + 4) L := by rw [ex3]; exact law_in (j := 4) hi6 hL (by decide)
      have h5 : vp_in (x3 + 5) L := by rw [ex3]; exact law_in (j := 5) hi6 hL (by decide)
      have hnx : ∀ (σ τ : St) (H : Heap) (locs : List Loc), Rel σ τ → va_P (eD E1) vwCl (wd true E1 σ) H → va_P (eD E2) vwCl (wd false E2 τ) H → va_S (fun q => s.heap.size ≤ q) s.heap H locs → W p l e room_1 s m #[Value.ref b] below meth c H locs cells slots (lw_Z below #[Value.ref b] s) (F0 m 1264 ls []) := by
        intro σ τ H locs hRel hP hPm hS
        refine lv_iinc (v := (x3 + 6)) (lv' := [(3, .int (x3 + 6)), (0, .ref b), (1, .ref (ea E1 0)), (2, .ref (ea E2 0))]) hx hb dL_law_1264 hl (k := 3) rfl rfl (by decide) rfl (fun ls hl => ?_)
        refine lv_goto (tgt := 18) hx hb dL_law_1267 (by decide) ?_
        exact ih (i + 6) (x3 + 6) (by rw [ex3]; exact nI_add i 6) (by omega) (by omega) σ τ hRel H locs ls hP hPm hS (lv_sub hl [1, 2, 3, 0] rfl)
      refine lv_aload_n hx hb dL_law_27 rfl (lv_at hl 0 rfl) ?_
      refine lv_iload_n hx hb dL_law_28 rfl (lv_at hl 3 rfl) ?_
      refine va_sld hx hb hXs hbl hbA hS h0 dL_law_29 ?_
      refine lv_bipush (v := 31) hx hb dL_law_30 (by decide) ?_
      refine lv_iand hx hb dL_law_32 ?_
      refine lv_topi (fun v ev => ?_)
      by_cases c_0 : v = 0
      · refine lv_tableIn (tgt := 168) hx hb dL_law_33 (by rw [c_0]; decide) (by rw [c_0]; decide) (by rw [c_0]; rfl) (by decide) ?_
        exact lc_0 Rel hops.1 C hcs x3 h1 h2 h3 h4 h5 σ τ hRel H locs ls hP hPm hS hl hnx
      by_cases c_1 : v = 1
      · refine lv_tableIn (tgt := 191) hx hb dL_law_33 (by rw [c_1]; decide) (by rw [c_1]; decide) (by rw [c_1]; rfl) (by decide) ?_
        exact lc_1 Rel hops.2.1 C hcs x3 h1 h2 h3 h4 h5 σ τ hRel H locs ls hP hPm hS hl hnx
      by_cases c_2 : v = 2
      · refine lv_tableIn (tgt := 234) hx hb dL_law_33 (by rw [c_2]; decide) (by rw [c_2]; decide) (by rw [c_2]; rfl) (by decide) ?_
        exact lc_2 Rel hops.2.2.1 C hcs x3 h1 h2 h3 h4 h5 σ τ hRel H locs ls hP hPm hS hl hnx
      by_cases c_3 : v = 3
      · refine lv_tableIn (tgt := 297) hx hb dL_law_33 (by rw [c_3]; decide) (by rw [c_3]; decide) (by rw [c_3]; rfl) (by decide) ?_
        exact lc_3 Rel hops.2.2.2.1 C hcs x3 h1 h2 h3 h4 h5 σ τ hRel H locs ls hP hPm hS hl hnx
      by_cases c_4 : v = 4
      · refine lv_tableIn (tgt := 360) hx hb dL_law_33 (by rw [c_4]; decide) (by rw [c_4]; decide) (by rw [c_4]; rfl) (by decide) ?_
        exact lc_4 Rel hops.2.2.2.2.1 C hcs x3 h1 h2 h3 h4 h5 σ τ hRel H locs ls hP hPm hS hl hnx
      by_cases c_5 : v = 5
      · refine lv_tableIn (tgt := 423) hx hb dL_law_33 (by rw [c_5]; decide) (by rw [c_5]; decide) (by rw [c_5]; rfl) (by decide) ?_
        exact lc_5 Rel hops.2.2.2.2.2.1 C hcs x3 h1 h2 h3 h4 h5 σ τ hRel H locs ls hP hPm hS hl hnx
      by_cases c_6 : v = 6
      · refine lv_tableIn (tgt := 446) hx hb dL_law_33 (by rw [c_6]; decide) (by rw [c_6]; decide) (by rw [c_6]; rfl) (by decide) ?_
        exact lc_6 Rel hops.2.2.2.2.2.2.1 C hcs x3 h1 h2 h3 h4 h5 σ τ hRel H locs ls hP hPm hS hl hnx
      by_cases c_7 : v = 7
      · refine lv_tableIn (tgt := 459) hx hb dL_law_33 (by rw [c_7]; decide) (by rw [c_7]; decide) (by rw [c_7]; rfl) (by decide) ?_
        exact lc_7 Rel hops.2.2.2.2.2.2.2.1 C hcs x3 h1 h2 h3 h4 h5 σ τ hRel H locs ls hP hPm hS hl hnx
      by_cases c_8 : v = 8
      · refine lv_tableIn (tgt := 472) hx hb dL_law_33 (by rw [c_8]; decide) (by rw [c_8]; decide) (by rw [c_8]; rfl) (by decide) ?_
        exact lc_8 Rel hops.2.2.2.2.2.2.2.2.1 C hcs x3 h1 h2 h3 h4 h5 σ τ hRel H locs ls hP hPm hS hl hnx
      by_cases c_9 : v = 9
      · refine lv_tableIn (tgt := 495) hx hb dL_law_33 (by rw [c_9]; decide) (by rw [c_9]; decide) (by rw [c_9]; rfl) (by decide) ?_
        exact lc_9 Rel hops.2.2.2.2.2.2.2.2.2.1 C hcs x3 h1 h2 h3 h4 h5 σ τ hRel H locs ls hP hPm hS hl hnx
      by_cases c_10 : v = 10
      · refine lv_tableIn (tgt := 518) hx hb dL_law_33 (by rw [c_10]; decide) (by rw [c_10]; decide) (by rw [c_10]; rfl) (by decide) ?_
        exact lc_10 Rel hops.2.2.2.2.2.2.2.2.2.2.1 C hcs x3 h1 h2 h3 h4 h5 σ τ hRel H locs ls hP hPm hS hl hnx
      by_cases c_11 : v = 11
      · refine lv_tableIn (tgt := 571) hx hb dL_law_33 (by rw [c_11]; decide) (by rw [c_11]; decide) (by rw [c_11]; rfl) (by decide) ?_
        exact lc_11 Rel hops.2.2.2.2.2.2.2.2.2.2.2.1 C hcs x3 h1 h2 h3 h4 h5 σ τ hRel H locs ls hP hPm hS hl hnx
      by_cases c_12 : v = 12
      · refine lv_tableIn (tgt := 604) hx hb dL_law_33 (by rw [c_12]; decide) (by rw [c_12]; decide) (by rw [c_12]; rfl) (by decide) ?_
        exact lc_12 Rel hops.2.2.2.2.2.2.2.2.2.2.2.2.1 C hcs x3 h1 h2 h3 h4 h5 σ τ hRel H locs ls hP hPm hS hl hnx
      by_cases c_13 : v = 13
      · refine lv_tableIn (tgt := 627) hx hb dL_law_33 (by rw [c_13]; decide) (by rw [c_13]; decide) (by rw [c_13]; rfl) (by decide) ?_
        exact lc_13 Rel hops.2.2.2.2.2.2.2.2.2.2.2.2.2.1 C hcs x3 h1 h2 h3 h4 h5 σ τ hRel H locs ls hP hPm hS hl hnx
      by_cases c_14 : v = 14
      · refine lv_tableIn (tgt := 650) hx hb dL_law_33 (by rw [c_14]; decide) (by rw [c_14]; decide) (by rw [c_14]; rfl) (by decide) ?_
        exact lc_14 Rel hops.2.2.2.2.2.2.2.2.2.2.2.2.2.2.1 C hcs x3 h1 h2 h3 h4 h5 σ τ hRel H locs ls hP hPm hS hl hnx
      by_cases c_15 : v = 15
      · refine lv_tableIn (tgt := 673) hx hb dL_law_33 (by rw [c_15]; decide) (by rw [c_15]; decide) (by rw [c_15]; rfl) (by decide) ?_
        exact lc_15 Rel hops.2.2.2.2.2.2.2.2.2.2.2.2.2.2.2.1 C hcs x3 h1 h2 h3 h4 h5 σ τ hRel H locs ls hP hPm hS hl hnx
      by_cases c_16 : v = 16
      · refine lv_tableIn (tgt := 736) hx hb dL_law_33 (by rw [c_16]; decide) (by rw [c_16]; decide) (by rw [c_16]; rfl) (by decide) ?_
        exact lc_16 Rel hops.2.2.2.2.2.2.2.2.2.2.2.2.2.2.2.2.1 C hcs x3 h1 h2 h3 h4 h5 σ τ hRel H locs ls hP hPm hS hl hnx
      by_cases c_17 : v = 17
      · refine lv_tableIn (tgt := 769) hx hb dL_law_33 (by rw [c_17]; decide) (by rw [c_17]; decide) (by rw [c_17]; rfl) (by decide) ?_
        exact lc_17 Rel hops.2.2.2.2.2.2.2.2.2.2.2.2.2.2.2.2.2.1 C hcs x3 h1 h2 h3 h4 h5 σ τ hRel H locs ls hP hPm hS hl hnx
      by_cases c_18 : v = 18
      · refine lv_tableIn (tgt := 812) hx hb dL_law_33 (by rw [c_18]; decide) (by rw [c_18]; decide) (by rw [c_18]; rfl) (by decide) ?_
        exact lc_18 Rel hops.2.2.2.2.2.2.2.2.2.2.2.2.2.2.2.2.2.2.1 C hcs x3 h1 h2 h3 h4 h5 σ τ hRel H locs ls hP hPm hS hl hnx
      by_cases c_19 : v = 19
      · refine lv_tableIn (tgt := 835) hx hb dL_law_33 (by rw [c_19]; decide) (by rw [c_19]; decide) (by rw [c_19]; rfl) (by decide) ?_
        exact lc_19 Rel hops.2.2.2.2.2.2.2.2.2.2.2.2.2.2.2.2.2.2.2.1 C hcs x3 h1 h2 h3 h4 h5 σ τ hRel H locs ls hP hPm hS hl hnx
      by_cases c_20 : v = 20
      · refine lv_tableIn (tgt := 898) hx hb dL_law_33 (by rw [c_20]; decide) (by rw [c_20]; decide) (by rw [c_20]; rfl) (by decide) ?_
        exact lc_20 Rel hops.2.2.2.2.2.2.2.2.2.2.2.2.2.2.2.2.2.2.2.2.1 C hcs x3 h1 h2 h3 h4 h5 σ τ hRel H locs ls hP hPm hS hl hnx
      by_cases c_21 : v = 21
      · refine lv_tableIn (tgt := 931) hx hb dL_law_33 (by rw [c_21]; decide) (by rw [c_21]; decide) (by rw [c_21]; rfl) (by decide) ?_
        exact lc_21 Rel hops.2.2.2.2.2.2.2.2.2.2.2.2.2.2.2.2.2.2.2.2.2.1 C hcs x3 h1 h2 h3 h4 h5 σ τ hRel H locs ls hP hPm hS hl hnx
      by_cases c_22 : v = 22
      · refine lv_tableIn (tgt := 954) hx hb dL_law_33 (by rw [c_22]; decide) (by rw [c_22]; decide) (by rw [c_22]; rfl) (by decide) ?_
        exact lc_22 Rel hops.2.2.2.2.2.2.2.2.2.2.2.2.2.2.2.2.2.2.2.2.2.2.1 C hcs x3 h1 h2 h3 h4 h5 σ τ hRel H locs ls hP hPm hS hl hnx
      by_cases c_23 : v = 23
      · refine lv_tableIn (tgt := 1007) hx hb dL_law_33 (by rw [c_23]; decide) (by rw [c_23]; decide) (by rw [c_23]; rfl) (by decide) ?_
        exact lc_23 Rel hops.2.2.2.2.2.2.2.2.2.2.2.2.2.2.2.2.2.2.2.2.2.2.2.1 C hcs x3 h1 h2 h3 h4 h5 σ τ hRel H locs ls hP hPm hS hl hnx
      by_cases c_24 : v = 24
      · refine lv_tableIn (tgt := 1030) hx hb dL_law_33 (by rw [c_24]; decide) (by rw [c_24]; decide) (by rw [c_24]; rfl) (by decide) ?_
        exact lc_24 Rel hops.2.2.2.2.2.2.2.2.2.2.2.2.2.2.2.2.2.2.2.2.2.2.2.2.1 C hcs x3 h1 h2 h3 h4 h5 σ τ hRel H locs ls hP hPm hS hl hnx
      by_cases c_25 : v = 25
      · refine lv_tableIn (tgt := 1063) hx hb dL_law_33 (by rw [c_25]; decide) (by rw [c_25]; decide) (by rw [c_25]; rfl) (by decide) ?_
        exact lc_25 Rel hops.2.2.2.2.2.2.2.2.2.2.2.2.2.2.2.2.2.2.2.2.2.2.2.2.2.1 C hcs x3 h1 h2 h3 h4 h5 σ τ hRel H locs ls hP hPm hS hl hnx
      by_cases c_26 : v = 26
      · refine lv_tableIn (tgt := 1096) hx hb dL_law_33 (by rw [c_26]; decide) (by rw [c_26]; decide) (by rw [c_26]; rfl) (by decide) ?_
        exact lc_26 Rel hops.2.2.2.2.2.2.2.2.2.2.2.2.2.2.2.2.2.2.2.2.2.2.2.2.2.2.1 C hcs x3 h1 h2 h3 h4 h5 σ τ hRel H locs ls hP hPm hS hl hnx
      by_cases c_27 : v = 27
      · refine lv_tableIn (tgt := 1119) hx hb dL_law_33 (by rw [c_27]; decide) (by rw [c_27]; decide) (by rw [c_27]; rfl) (by decide) ?_
        exact lc_27 Rel hops.2.2.2.2.2.2.2.2.2.2.2.2.2.2.2.2.2.2.2.2.2.2.2.2.2.2.2.1 C hcs x3 h1 h2 h3 h4 h5 σ τ hRel H locs ls hP hPm hS hl hnx
      by_cases c_28 : v = 28
      · refine lv_tableIn (tgt := 1142) hx hb dL_law_33 (by rw [c_28]; decide) (by rw [c_28]; decide) (by rw [c_28]; rfl) (by decide) ?_
        exact lc_28 Rel hops.2.2.2.2.2.2.2.2.2.2.2.2.2.2.2.2.2.2.2.2.2.2.2.2.2.2.2.2.1 C hcs x3 h1 h2 h3 h4 h5 σ τ hRel H locs ls hP hPm hS hl hnx
      by_cases c_29 : v = 29
      · refine lv_tableIn (tgt := 1211) hx hb dL_law_33 (by rw [c_29]; decide) (by rw [c_29]; decide) (by rw [c_29]; rfl) (by decide) ?_
        exact lc_29 Rel hops.2.2.2.2.2.2.2.2.2.2.2.2.2.2.2.2.2.2.2.2.2.2.2.2.2.2.2.2.2 C hcs x3 h1 h2 h3 h4 h5 σ τ hRel H locs ls hP hPm hS hl hnx
      have n_0 := lv_neT (a := 0) c_0 (by decide)
      have n_1 := lv_neT (a := 1) c_1 (by decide)
      have n_2 := lv_neT (a := 2) c_2 (by decide)
      have n_3 := lv_neT (a := 3) c_3 (by decide)
      have n_4 := lv_neT (a := 4) c_4 (by decide)
      have n_5 := lv_neT (a := 5) c_5 (by decide)
      have n_6 := lv_neT (a := 6) c_6 (by decide)
      have n_7 := lv_neT (a := 7) c_7 (by decide)
      have n_8 := lv_neT (a := 8) c_8 (by decide)
      have n_9 := lv_neT (a := 9) c_9 (by decide)
      have n_10 := lv_neT (a := 10) c_10 (by decide)
      have n_11 := lv_neT (a := 11) c_11 (by decide)
      have n_12 := lv_neT (a := 12) c_12 (by decide)
      have n_13 := lv_neT (a := 13) c_13 (by decide)
      have n_14 := lv_neT (a := 14) c_14 (by decide)
      have n_15 := lv_neT (a := 15) c_15 (by decide)
      have n_16 := lv_neT (a := 16) c_16 (by decide)
      have n_17 := lv_neT (a := 17) c_17 (by decide)
      have n_18 := lv_neT (a := 18) c_18 (by decide)
      have n_19 := lv_neT (a := 19) c_19 (by decide)
      have n_20 := lv_neT (a := 20) c_20 (by decide)
      have n_21 := lv_neT (a := 21) c_21 (by decide)
      have n_22 := lv_neT (a := 22) c_22 (by decide)
      have n_23 := lv_neT (a := 23) c_23 (by decide)
      have n_24 := lv_neT (a := 24) c_24 (by decide)
      have n_25 := lv_neT (a := 25) c_25 (by decide)
      have n_26 := lv_neT (a := 26) c_26 (by decide)
      have n_27 := lv_neT (a := 27) c_27 (by decide)
      have n_28 := lv_neT (a := 28) c_28 (by decide)
      have n_29 := lv_neT (a := 29) c_29 (by decide)
      refine lv_tableOut (tgt := 1264) hx hb dL_law_33 (by omega) (by decide) ?_
      exact hnx σ τ H locs hRel hP hPm hS
/-- what the start gives besides: classes, array classes, links, String constants -/
theorem start_K {b : Nat} {s : State} (hts : ∀ w ∈ lw_tbl, w.before #[Value.ref b] s = true) : ∃ (D : va_G) (cI cZ : ClassId), va_K D vwCl (tyK cI cZ) s := by
  obtain ⟨c0, iS0, hKn0⟩ := u_known (C := RX0) (T := TX0) (N := 5) (n := 5) hts (fun w h => (List.mem_filter.mp (iX0 w h)).1) (hts _ (List.mem_filter.mp wm_t242).1)
  obtain ⟨c1, iS1, hKn1⟩ := u_known (C := RX1) (T := TX1) (N := 5) (n := 5) hts (fun w h => (List.mem_filter.mp (iX1 w h)).1) (hts _ (List.mem_filter.mp wm_t216).1)
  obtain ⟨c2, iS2, hKn2⟩ := u_known (C := RX2) (T := TX2) (N := 3) (n := 3) hts (fun w h => (List.mem_filter.mp (iX2 w h)).1) (hts _ (List.mem_filter.mp wm_t196).1)
  obtain ⟨c3, iS3, hKn3⟩ := u_known (C := RX3) (T := TX3) (N := 2) (n := 2) hts (fun w h => (List.mem_filter.mp (iX3 w h)).1) (hts _ (List.mem_filter.mp wm_t265).1)
  obtain ⟨c4, iS4, hKn4⟩ := u_known (C := RX4) (T := TX4) (N := 10) (n := 10) hts (fun w h => (List.mem_filter.mp (iX4 w h)).1) (hts _ (List.mem_filter.mp wm_t122).1)
  obtain ⟨c5, iS5, hKn5⟩ := u_known (C := RX5) (T := TX5) (N := 7) (n := 7) hts (fun w h => (List.mem_filter.mp (iX5 w h)).1) (hts _ (List.mem_filter.mp wm_t87).1)
  obtain ⟨c6, iS6, hKn6⟩ := u_known (C := RX6) (T := TX6) (N := 3) (n := 3) hts (fun w h => (List.mem_filter.mp (iX6 w h)).1) (hts _ (List.mem_filter.mp wm_t279).1)
  obtain ⟨c7, iS7, hKn7⟩ := u_known (C := RX7) (T := TX7) (N := 2) (n := 2) hts (fun w h => (List.mem_filter.mp (iX7 w h)).1) (hts _ (List.mem_filter.mp wm_t30).1)
  obtain ⟨c8, iS8, hKn8⟩ := u_known (C := RX8) (T := TX8) (N := 8) (n := 8) hts (fun w h => (List.mem_filter.mp (iX8 w h)).1) (hts _ (List.mem_filter.mp wm_t44).1)
  obtain ⟨c9, iS9, hKn9⟩ := u_known (C := RX9) (T := TX9) (N := 8) (n := 8) hts (fun w h => (List.mem_filter.mp (iX9 w h)).1) (hts _ (List.mem_filter.mp wm_t128).1)
  obtain ⟨c10, iS10, hKn10⟩ := u_known (C := RX10) (T := TX10) (N := 14) (n := 14) hts (fun w h => (List.mem_filter.mp (iX10 w h)).1) (hts _ (List.mem_filter.mp wm_t22).1)
  obtain ⟨c11, iS11, hKn11⟩ := u_known (C := RX11) (T := TX11) (N := 63) (n := 63) hts (fun w h => (List.mem_filter.mp (iX11 w h)).1) (hts _ (List.mem_filter.mp wm_t1012).1)
  obtain ⟨cI, kI, mI, a1, a2, a3⟩ := Cond.arrayClass_spec (hts _ (List.mem_filter.mp wm_t42).1)
  obtain ⟨cZ, kZ, mZ, b1, b2, b3⟩ := Cond.arrayClass_spec (hts _ (List.mem_filter.mp wm_t277).1)
  refine ⟨(fun k => if k = 0 then c0 else if k = 1 then c1 else if k = 2 then c2 else if k = 3 then c3 else if k = 4 then c4 else if k = 5 then c5 else if k = 6 then c6 else if k = 7 then c7 else if k = 8 then c8 else if k = 9 then c9 else if k = 10 then c10 else c11, fun k => if k = 0 then iS0 else if k = 1 then iS1 else if k = 2 then iS2 else if k = 3 then iS3 else if k = 4 then iS4 else if k = 5 then iS5 else if k = 6 then iS6 else if k = 7 then iS7 else if k = 8 then iS8 else if k = 9 then iS9 else if k = 10 then iS10 else iS11), cI, cZ, ?_, ?_⟩
  · intro k q hq
    match k, hq with
    | 0, hq => cases hq; exact hKn0
    | 1, hq => cases hq; exact hKn1
    | 2, hq => cases hq; exact hKn2
    | 3, hq => cases hq; exact hKn3
    | 4, hq => cases hq; exact hKn4
    | 5, hq => cases hq; exact hKn5
    | 6, hq => cases hq; exact hKn6
    | 7, hq => cases hq; exact hKn7
    | 8, hq => cases hq; exact hKn8
    | 9, hq => cases hq; exact hKn9
    | 10, hq => cases hq; exact hKn10
    | 11, hq => cases hq; exact hKn11
    | k + 12, hq => simp [vwCl] at hq
  · intro k q hq
    match k, hq with
    | 0, hq => cases hq; exact ⟨fun n z => ⟨fun k h => (by cases h), kI, a2, mI, a3⟩, a1⟩
    | 1, hq => cases hq; exact ⟨fun n z => ⟨fun k h => (by cases h), kZ, b2, mZ, b3⟩, b1⟩
    | k + 2, hq => simp [tyK] at hq
theorem nest_in : ∀ q ∈ nestD, Cond.methodLinkNest q.1 q.2.1 q.2.2.1 q.2.2.2 ∈ lw_tbl := by decide +kernel
abbrev tmJ (i : Nat) : Term := .string "SoupCargo$Reader" (idxJS.getD i 0)
abbrev gnF : List Cond := flatC (Jvm.Cond.and given_1 narrow_1)
theorem js_ex : ∀ i, i < 3 → Cond.exactly (tmJ i) "java/lang/String" ∈ gnF := by decide +kernel
theorem js_co : ∀ i, i < 3 → Cond.eq (.field (tmJ i) "java/lang/String" "coder" "B") (.int 0) ∈ gnF := by decide +kernel
theorem js_ar : ∀ i, i < 3 → Cond.arrayOf (.field (tmJ i) "java/lang/String" "value" "[B") .byte ∈ gnF := by decide +kernel
theorem js_le : ∀ i, i < 3 → Cond.eq (.length (.field (tmJ i) "java/lang/String" "value" "[B")) (.int (Int32.ofNat (lenJS.getD i 0))) ∈ gnF := by decide +kernel
theorem js_el : ∀ i, i < 3 → ∀ j, j < lenJS.getD i 0 → Cond.eq (.elem (.field (tmJ i) "java/lang/String" "value" "[B") (.int (Int32.ofNat j))) (.int ((bytJS.getD i []).getD j 0)) ∈ gnF := by decide +kernel
theorem js_ne : ∀ i, i < 3 → ∀ j, j < 3 → i ≠ j → Cond.not (Cond.eq (tmJ i) (tmJ j)) ∈ gnF ∨ Cond.not (Cond.eq (tmJ j) (tmJ i)) ∈ gnF := by decide +kernel
theorem js_sr : ∀ i, i < 3 → Cond.stringRef "SoupCargo$Reader" (idxJS.getD i 0) (txtJS.getD i "") ∈ lw_tbl := by decide +kernel
theorem start_X {b : Nat} {s : State} (hts : ∀ w ∈ lw_tbl, w.before #[Value.ref b] s = true) (hgv : (Jvm.Cond.and given_1 narrow_1).before #[Value.ref b] s = true) : ∃ kK kV : Nat → Nat, ∀ (D : va_G) (cI cZ : ClassId) (a : Nat → Nat), XX true (mkE D cI cZ a kK kV) (fun q => s.heap.size ≤ q) s := by
  have hs := flat_of_before _ hgv
  have hA : ∀ a : Nat, a < s.heap.size → ¬ (fun q : Nat => s.heap.size ≤ q) a := fun a h => Nat.not_le.mpr h
  obtain ⟨kK, kV, h1, h2⟩ := vk_Sof (N := 3) (tm := tmJ) (len := lenJS) (byt := bytJS) (A := fun q => s.heap.size ≤ q) (args := #[Value.ref b]) (s := s) (by decide) (fun i hi => hs _ (js_ex i hi)) (fun i hi => hs _ (js_co i hi)) (fun i hi => hs _ (js_ar i hi)) (fun i hi => hs _ (js_le i hi)) (fun i hi j hj => hs _ (js_el i hi j hj)) (fun i j hi hj hij => (js_ne i hi j hj hij).imp (hs _) (hs _)) hA
  refine ⟨kK, kV, fun D cI cZ a => ⟨fun q hq => va_Nw.of rfl (hts _ (nest_in q hq)), h1, fun i hi => vk_R.of (hts _ (js_sr i hi)) (h2 i hi), ?_, ?_⟩⟩
  · exact va_Zof (hts _ (by decide +kernel)) (hts _ (by decide +kernel)) (va_eqi (hs _ (by decide +kernel))) hA
  · exact va_Zqof (hts _ (by decide +kernel)) (hts _ (by decide +kernel)) (hs _ (by decide +kernel)) hA
set_option maxHeartbeats 8000000 in
set_option maxRecDepth 100000 in
theorem law_start (Rel : St → St → Prop) (hops : OPS Rel) (h00 : Rel s0C s0M) {p : Program} {e : Env} {s : State} {m : MethodId} {below : List Frame} {meth : Method} {c : Code} (l : Launch) {b L : Nat} {xs : Nat → Int32} (hL : L ≤ 3072) (C0 : lw_At p s m meth c b L xs) : W p l e room_1 s m #[Value.ref b] below meth c s.heap [] 0 0 (lw_Z below #[Value.ref b] s) (entryFrame m ([Value.ref b] : List Value).toArray 4) := by
  obtain ⟨hx, hb, hr, hml, hown, hts, hX, hbl, hlocks, hgv⟩ := id C0
  have htg : ∀ w ∈ gT, w.before #[Value.ref b] s = true := fun w hw => hts w (List.mem_filter.mp hw).1
  have hA : ∀ q : Nat, s.heap.size ≤ q → (fun q : Nat => s.heap.size ≤ q) q := fun _ h => h
  obtain ⟨D, cI, cZ, hK⟩ := start_K hts
  obtain ⟨kK, kV, hXX⟩ := start_X hts hgv
  have hN : nestX s := (hXX D cI cZ kK).1
  have hS : va_S (fun q : Nat => s.heap.size ≤ q) s.heap s.heap [] := va_S.rf
  have hP : va_P D vwCl [] s.heap := fun k q h => by simp at h
  have hD : va_D (fun q : Nat => s.heap.size ≤ q) [] := ⟨fun i j p q h => by simp at h, fun k q h => by simp at h⟩
  have hl := lv_entry ([.ref b]) (n := 4) (Nat.le_of_ble_eq_true rfl)
  rw [lg_entry_eq]
  generalize (lg_sl ([.ref b]) ++ List.replicate (4 - (lg_sl ([.ref b])).length) Slot.unset).toArray = ls at hl ⊢
  have hl : lv_has ls 4 [(0, .ref b)] := hl
  refine va_new (ci := 10) (fs := [.null, .null, .null, .null, .null, .null, .null, .null, .null, .null, .null, .int 0, .int 0, .int 0]) (C := RX10) (T := TX10) (N := 14) hx hb htg iX10 tyX10 tyX10_ok hown (htg _ wm_t21) (htg _ wm_t22) (htg _ wm_t1) hK hP hD hS hA rfl (by decide) (by decide) (by decide) dL_law_0 (fun q0 H hP hD hS => ?_)
  have hP : va_P D vwCl [(q0, .inr (10, [.null, .null, .null, .null, .null, .null, .null, .null, .null, .null, .null, .int 0, .int 0, .int 0]))] H := hP
  have hD : va_D (fun q : Nat => s.heap.size ≤ q) [(q0, .inr (10, [.null, .null, .null, .null, .null, .null, .null, .null, .null, .null, .null, .int 0, .int 0, .int 0]))] := hD
  refine W.widen (k := 1) (n := 14) (by omega) (by omega) ?_
  refine lv_dup hx hb dL_law_3 rfl ?_
  refine k_call (n := 0) (As := []) (rest := [.ref q0]) (host := "") (wr := []) (wl := wl_X10_init cI cZ) ⟨hx, hb, hml, hown, htg⟩ hK hN (k_X10_init q0 H.size) (Or.inl wm_t23) wm_t25 wm_t1 wm_t24 rfl (by decide +kernel) ⟨rfl, rfl, by decide, by decide⟩ rfl rfl (Nat.le_of_ble_eq_true rfl) dL_law_4 (by decide) hl.1 hP hD hS hA [0] [] rfl rfl (by decide) (by decide) (by decide) rfl (fun u1 H locs hu1 hP hD hS => ?_)
  rw [← hu1]
  have hP : va_P D vwCl (wl_X10_init cI cZ u1) H := hP
  have hD : va_D (fun q : Nat => s.heap.size ≤ q) (wl_X10_init cI cZ u1) := hD
  refine W.widen (k := 65) (n := 7331) (by omega) (by omega) ?_
  refine lv_astore_n (lv' := [(1, .ref (u1 0)), (0, .ref b)]) hx hb dL_law_7 rfl hl (by decide) rfl (fun ls hl => ?_)
  refine va_new (ci := 11) (fs := [.int 0, .int 0, .int 0, .null, .null, .null, .null, .null, .null, .null, .null, .int 0, .null, .int 0, .null, .null, .null, .null, .int 0, .int 0, .int 0, .int 0, .int 0, .null, .null, .null, .null, .null, .null, .null, .null, .null, .int 0, .int 0, .int 0, .null, .int 0, .int 0, .int 0, .int 0, .int 0, .null, .null, .null, .null, .int 0, .null, .null, .int 0, .null, .null, .null, .int 0, .int 0, .null, .null, .int 0, .null, .int 0, .null, .null, .null, .null]) (C := RX11) (T := TX11) (N := 63) hx hb htg iX11 tyX11 tyX11_ok hown (htg _ wm_t1011) (htg _ wm_t1012) (htg _ wm_t13) hK hP hD hS hA rfl (by decide) (by decide) (by decide) dL_law_8 (fun q2 H hP hD hS => ?_)
  refine W.widen (k := 66) (n := 7394) (by omega) (by omega) ?_
  refine lv_dup hx hb dL_law_11 rfl ?_
  refine k_call (n := 0) (As := []) (rest := [.ref q2]) (host := "") (wr := wl_X10_init cI cZ u1) (wl := wl_X11_init cI cZ) ⟨hx, hb, hml, hown, htg⟩ hK hN (k_X11_init q2 H.size) (Or.inl wm_t1013) wm_t1015 wm_t13 wm_t1014 rfl (by decide +kernel) ⟨rfl, rfl, by decide, by decide⟩ rfl rfl (Nat.le_of_ble_eq_true rfl) dL_law_12 (by decide) hl.1 hP hD hS hA [65] [0, 1, 2, 3, 4, 5, 6, 7, 8, 9, 10, 11, 12, 13, 14, 15, 16, 17, 18, 19, 20, 21, 22, 23, 24, 25, 26, 27, 28, 29, 30, 31, 32, 33, 34, 35, 36, 37, 38, 39, 40, 41, 42, 43, 44, 45, 46, 47, 48, 49, 50, 51, 52, 53, 54, 55, 56, 57, 58, 59, 60, 61, 62, 63, 64] rfl rfl (by decide) (by decide) (by decide) rfl (fun u2 H locs hu2 hP hD hS => ?_)
  rw [← hu2]
  refine W.widen (k := 105) (n := 15933) (by omega) (by omega) ?_
  refine lv_astore_n (lv' := [(2, .ref (u2 0)), (1, .ref (u1 0)), (0, .ref b)]) hx hb dL_law_15 rfl hl (by decide) rfl (fun ls hl => ?_)
  refine lv_iconst (v := 0) hx hb dL_law_16 (by decide) ?_
  refine lv_istore_n (lv' := [(3, .int 0), (2, .ref (u2 0)), (1, .ref (u1 0)), (0, .ref b)]) hx hb dL_law_17 rfl hl (by decide) rfl (fun ls hl => ?_)
  have len1 : (wl_X10_init cI cZ u1).length = 65 := rfl
  have len2 : (wl_X11_init cI cZ u2).length = 40 := rfl
  -- the two worlds
  have hP1 : va_P D vwCl (wl_X10_init cI cZ u1) H := fun k q hq => hP k q (by rw [List.getElem?_append_left (List.getElem?_eq_some_iff.mp hq).1]; exact hq)
  have hD1 : va_D (fun q : Nat => s.heap.size ≤ q) (wl_X10_init cI cZ u1) := ⟨fun i j p q hi hj => hD.1 i j p q (by rw [List.getElem?_append_left (List.getElem?_eq_some_iff.mp hi).1]; exact hi) (by rw [List.getElem?_append_left (List.getElem?_eq_some_iff.mp hj).1]; exact hj), fun k q hq => hD.2 k q (by rw [List.getElem?_append_left (List.getElem?_eq_some_iff.mp hq).1]; exact hq)⟩
  have sh : ∀ (k : Nat) (q : Nat × va_E), (wl_X11_init cI cZ u2)[k]? = some q → (wl_X10_init cI cZ u1 ++ wl_X11_init cI cZ u2)[65 + k]? = some q := fun k q hq => by
    rw [List.getElem?_append_right (by rw [len1]; omega), len1, Nat.add_sub_cancel_left]; exact hq
  have hP2 : va_P D vwCl (wl_X11_init cI cZ u2) H := fun k q hq => hP _ q (sh k q hq)
  have hD2 : va_D (fun q : Nat => s.heap.size ≤ q) (wl_X11_init cI cZ u2) := ⟨fun i j p q hi hj he => by have := hD.1 _ _ p q (sh i p hi) (sh j q hj) he; omega, fun k q hq => hD.2 _ q (sh k q hq)⟩
  have hPC := hP1.sub permC (st_eqC D cI cZ u1 kK kV)
  have hPM : va_P D vwCl (wd false (mkE D cI cZ u2 kK kV) s0M) H := by rw [← st_eqM]; exact hP2
  have atC : ∀ i, i < nP true → ∃ j q, j < 65 ∧ (wl_X10_init cI cZ u1)[j]? = some q ∧ q.1 = ea (mkE D cI cZ (aC u1) kK kV) i ∧ permC[i]? = some j := by
    intro i hi
    have h1 : permC[i]? = some (permC.getD i 0) := by
      have : i < permC.length := hi
      simp [List.getD, this]
    have h2 : permC.getD i 0 < 65 := (by decide : ∀ i, i < 65 → permC.getD i 0 < 65) i hi
    have h3 : ∀ j, j < 65 → ∃ q, (wl_X10_init cI cZ u1)[j]? = some q ∧ q.1 = u1 j := by
      intro j hj
      have : ((wl_X10_init cI cZ u1).map (·.1))[j]? = some (u1 j) := by
        rw [show (wl_X10_init cI cZ u1).map (·.1) = (List.range 65).map u1 from rfl]
        simp [hj]
      rw [List.getElem?_map] at this
      cases hq : (wl_X10_init cI cZ u1)[j]? with
      | none => rw [hq] at this; cases this
      | some q => rw [hq] at this; exact ⟨q, rfl, Option.some.inj this⟩
    obtain ⟨q, g1, g2⟩ := h3 _ h2
    exact ⟨_, q, h2, g1, g2, h1⟩
  have atM : ∀ i, i < nP false → ∃ q, (wl_X11_init cI cZ u2)[i]? = some q ∧ q.1 = ea (mkE D cI cZ u2 kK kV) i := by
    intro i hi
    have : ((wl_X11_init cI cZ u2).map (·.1))[i]? = some (u2 i) := by
      rw [show (wl_X11_init cI cZ u2).map (·.1) = (List.range 40).map u2 from rfl]
      have hi' : i < 40 := hi
      simp [hi']
    rw [List.getElem?_map] at this
    cases hq : (wl_X11_init cI cZ u2)[i]? with
    | none => rw [hq] at this; cases this
    | some q => rw [hq] at this; exact ⟨q, rfl, Option.some.inj this⟩
  have pinj : ∀ i, i < 65 → ∀ j, j < 65 → permC.getD i 0 = permC.getD j 0 → i = j := by decide
  have CC : LC (mkE D cI cZ (aC u1) kK kV) (mkE D cI cZ u2 kK kV) p s m c b L xs := by
    refine ⟨⟨hx, hb, hml, hown, htg⟩, hX, hbl, ⟨hK, hK⟩, hXX D cI cZ (aC u1), ⟨?_, ?_⟩, ?_, ?_, ?_⟩
    · intro i j hi hj he
      obtain ⟨ji, qi, a1, a2, a3, a4⟩ := atC i hi
      obtain ⟨jj, qj, b1, b2, b3, b4⟩ := atC j hj
      have e1 := hD1.1 ji jj qi qj a2 b2 (by rw [a3, b3]; exact he)
      subst e1
      refine pinj i hi j hj ?_
      simp [List.getD, a4, b4]
    · intro i j hi hj he
      obtain ⟨qi, a2, a3⟩ := atM i hi
      obtain ⟨qj, b2, b3⟩ := atM j hj
      exact hD2.1 i j qi qj a2 b2 (by rw [a3, b3]; exact he)
    · intro i j hi hj he
      obtain ⟨ji, qi, a1, a2, a3, a4⟩ := atC i hi
      obtain ⟨qj, b2, b3⟩ := atM j hj
      have e1 := hD.1 ji (65 + j) qi qj (by rw [List.getElem?_append_left (by rw [len1]; exact a1)]; exact a2) (sh j qj b2) (by rw [a3, b3]; exact he)
      omega
    · intro i hi
      obtain ⟨ji, qi, a1, a2, a3, a4⟩ := atC i hi
      have := hD1.2 ji qi a2
      rw [a3] at this; exact this
    · intro i hi
      obtain ⟨qi, a2, a3⟩ := atM i hi
      have := hD2.2 i qi a2
      rw [a3] at this; exact this
  exact law_loop Rel hops hL CC hr hlocks ⟨by decide, by decide⟩ (L + 7) 0 0 nI_0.symm (by omega) (by omega) s0C s0M h00 H locs ls hPC hPM hS (lv_sub hl [3, 2, 1, 0] rfl)
