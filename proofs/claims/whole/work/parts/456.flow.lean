/-! soup flows to the low side -/
def mvP (f : Nat → Int32) (p q : Nat) (v : Int32) : Nat → Int32 := upd (upd f q v) p 0
theorem mvP_p {f : Nat → Int32} {p q : Nat} {v : Int32} : mvP f p q v p = 0 := up_same
theorem mvP_q {f : Nat → Int32} {p q : Nat} {v : Int32} (h : ¬ q = p) : mvP f p q v q = v := by unfold mvP; rw [up_ne h, up_same]
theorem mvP_o {f : Nat → Int32} {p q j : Nat} {v : Int32} (h : ¬ j = p) (h' : ¬ j = q) : mvP f p q v j = f j := by unfold mvP; rw [up_ne h, up_ne h']
theorem put8 {σ : St} {a b c d p q : Nat} {v1 v2 v3 v4 : Int32} (ab : ¬ a = b) (ac : ¬ a = c) (ad : ¬ a = d) (bc : ¬ b = c) (bd : ¬ b = d) (cd : ¬ c = d) : ∃ σ', st_put (st_put (st_put (st_put (st_put (st_put (st_put (st_put σ a q v1) b q v2) c q v3) d q v4) a p 0) b p 0) c p 0) d p 0 = σ' ∧ σ' a = mvP (σ a) p q v1 ∧ σ' b = mvP (σ b) p q v2 ∧ σ' c = mvP (σ c) p q v3 ∧ σ' d = mvP (σ d) p q v4 ∧ ∀ x, ¬ x = a → ¬ x = b → ¬ x = c → ¬ x = d → σ' x = σ x := by
  refine ⟨_, rfl, ?_, ?_, ?_, ?_, fun x h1 h2 h3 h4 => ?_⟩
  · rw [sp_ne ad, sp_ne ac, sp_ne ab, sp_same, sp_ne ad, sp_ne ac, sp_ne ab, sp_same]; rfl
  · rw [sp_ne bd, sp_ne bc, sp_same, sp_ne (fun h => ab h.symm), sp_ne bd, sp_ne bc, sp_same, sp_ne (fun h => ab h.symm)]; rfl
  · rw [sp_ne cd, sp_same, sp_ne (fun h => bc h.symm), sp_ne (fun h => ac h.symm), sp_ne cd, sp_same, sp_ne (fun h => bc h.symm), sp_ne (fun h => ac h.symm)]; rfl
  · rw [sp_same, sp_ne (fun h => cd h.symm), sp_ne (fun h => bd h.symm), sp_ne (fun h => ad h.symm), sp_same, sp_ne (fun h => cd h.symm), sp_ne (fun h => bd h.symm), sp_ne (fun h => ad h.symm)]; rfl
  · rw [sp_ne h4, sp_ne h3, sp_ne h2, sp_ne h1, sp_ne h4, sp_ne h3, sp_ne h2, sp_ne h1]
/-- the top of one column comes to another -/
def mvN (F : Nat → Nat) (p q j : Nat) : Nat := if j = p then 0 else if j = q then F p else F j
theorem mv_hold {O W K Q : Nat → Nat} (hr : r_hold O W K Q) {fc tc t s : Nat} (hf : fc < 24) (ht : tc < 24) (ne : ¬ fc = tc) (et : hTop O fc = t + 1) (es : hTop O tc = s) (hs : s < 6) : r_hold (mvN O (6 * fc + t) (6 * tc + s)) (mvN W (6 * fc + t) (6 * tc + s)) (mvN K (6 * fc + t) (6 * tc + s)) (mvN Q (6 * fc + t) (6 * tc + s)) := by
  obtain ⟨l1, l2⟩ := hTop_iff hr hf
  obtain ⟨k1, k2⟩ := hTop_iff hr ht
  obtain ⟨r1, r2, r3, r4, r5⟩ := hr.1 (6 * fc + t) (by omega)
  have h1 := hold_more hr (q := tc) (m := s) (o := O (6 * fc + t)) (w := W (6 * fc + t)) (k := K (6 * fc + t)) (p := Q (6 * fc + t)) ht hs (fun z hz => (k2 z (by omega)).mp (by omega)) ⟨(l2 t (by omega)).mp (by omega), r1⟩ r2 r3 r4
  exact hold_less h1 (q := fc) (m := t) hf (by omega) (fun h => by
    show (if 6 * fc + (t + 1) = 6 * tc + s then O (6 * fc + t) else O (6 * fc + (t + 1))) = 0
    rw [if_neg (by omega)]
    have := l2 (t + 1) h
    omega)
theorem mvN_I {F : Nat → Nat} {f : Nat → Int32} {base p q : Nat} {v : Int32} (hpq : ¬ q = p) (hv : v = nI (F p)) (h : ∀ j, j < 144 → f (base + j) = nI (F j)) : ∀ j, j < 144 → mvP f (base + p) (base + q) v (base + j) = nI (mvN F p q j) := by
  intro j hj
  unfold mvN
  by_cases e : j = p
  · subst e; rw [if_pos rfl, mvP_p]; rfl
  · rw [if_neg e]
    by_cases e' : j = q
    · subst e'; rw [if_pos rfl, mvP_q (by omega), hv]
    · rw [if_neg e', mvP_o (by omega) (by omega), h j hj]
theorem flow1 {w b fc tc x : Nat} {σ τ : St} {O W K Q : Nat → Nat} {a0 a1 a2 a3 : Int32} (hwb : (w = 0 ∧ b = 10) ∨ (w = 1 ∧ b = 17)) (hst : r_stk (σ (b + 2))) (hr : r_hold O W K Q) (hh : r_hW w b σ τ O W K Q) (hf : fc < 24) (ht : tc < 24) (ne : ¬ fc = tc) (hx : x ≤ 60) (hl : (if 0 ≤ σ b 5 then σ b 5 else 0 - σ b 5) = nI x) (e1 : 144 * a0 + 36 * a1 + 6 * a2 = nI (144 * w + 6 * fc)) (e2 : nI (144 * w + 6 * fc) + 6 * a3 = nI (144 * w + 6 * tc)) : ∃ σ' τ' O' W' K' Q', fX5_flowOver b σ (nI fc) (nI tc) = some σ' ∧ fX11_flows τ a0 a1 a2 a3 (nI x) = some τ' ∧ r_hold O' W' K' Q' ∧ r_hW w b σ' τ' O' W' K' Q' ∧ (∀ a, ¬ (b + 3 ≤ a ∧ a ≤ b + 6) → σ' a = σ a) ∧ frW w τ τ' ∧ (∀ a, ¬ (5 ≤ a ∧ a ≤ 8) → τ' a = τ a) := by
  have hw : w < 2 := by omega
  have hb : b ≤ 17 := by omega
  have sb : stN (b + 2) = 144 := by rcases hwb with ⟨_, rfl⟩ | ⟨_, rfl⟩ <;> rfl
  obtain ⟨F1, F2⟩ := hold_height hw sb hst hr hh hf
  obtain ⟨T1, T2⟩ := hold_height hw sb hst hr hh ht
  obtain ⟨l1, l2⟩ := hTop_iff hr hf
  obtain ⟨k1, k2⟩ := hTop_iff hr ht
  have stay : ∀ (P1 : fX5_flowOver b σ (nI fc) (nI tc) = some σ) (P2 : fX11_flows τ a0 a1 a2 a3 (nI x) = some τ), ∃ σ' τ' O' W' K' Q', fX5_flowOver b σ (nI fc) (nI tc) = some σ' ∧ fX11_flows τ a0 a1 a2 a3 (nI x) = some τ' ∧ r_hold O' W' K' Q' ∧ r_hW w b σ' τ' O' W' K' Q' ∧ (∀ a, ¬ (b + 3 ≤ a ∧ a ≤ b + 6) → σ' a = σ a) ∧ frW w τ τ' ∧ (∀ a, ¬ (5 ≤ a ∧ a ≤ 8) → τ' a = τ a) := fun P1 P2 => ⟨σ, τ, O, W, K, Q, P1, P2, hr, hh, fun _ _ => rfl, frW_r _ _, fun _ _ => rfl⟩
  have CC : fX5_flowOver b σ (nI fc) (nI tc) = fX5_flowOver_25 b σ (nI fc) (nI tc) (nI (if x < 10 then 1 else 0)) (nI (hTop O fc)) := by
    unfold fX5_flowOver
    rw [F1, p_cq, hl]
    by_cases c : x < 10
    · rw [if_pos (show nI x < 10 from nI_lt (b := 10) c (by omega)), if_pos c]; rfl
    · rw [if_neg (show ¬ nI x < 10 from fun q => c ((nI_ltI (b := 10) (by omega) (by omega)).mp q)), if_neg c]; rfl
  have MM : fX11_flows τ a0 a1 a2 a3 (nI x) = (if nI (hTop O fc) = 0 then some τ else if nI (hTop O tc) = 6 then some τ else rdK 288 (τ 8) (nI (144 * w + 6 * fc) + nI (hTop O fc) - 1) fun v8 => if v8 = 0 then some τ else fX11_flows_88 τ (nI (144 * w + 6 * fc)) (nI (144 * w + 6 * tc)) (nI (hTop O fc)) (nI (hTop O tc)) (nI (if x < 10 then 0 else 1)) (nI (hTop O fc) - 1) (nI (hTop O tc))) := by
    unfold fX11_flows
    rw [p_nm, e1, e2, F2, p_cq, T2, p_cq]
    by_cases c : x < 10
    · simp only [if_pos (show nI x < 10 from nI_lt (b := 10) c (by omega)), if_pos c]; rfl
    · simp only [if_neg (show ¬ nI x < 10 from fun q => c ((nI_ltI (b := 10) (by omega) (by omega)).mp q)), if_neg c]; rfl
  rw [CC, MM] at stay ⊢
  by_cases c1 : hTop O fc = 0
  · refine stay ?_ ?_
    · unfold fX5_flowOver_25 fX8_topIsSoup
      rw [F1, p_cq, if_pos ((nI_le0 (by omega)).mpr c1), p_cq, if_pos rfl]
    · rw [if_pos ((nI_e0 (by omega)).mpr c1)]
  obtain ⟨t, et⟩ : ∃ t, hTop O fc = t + 1 := ⟨hTop O fc - 1, by omega⟩
  generalize es : hTop O tc = s at *
  obtain ⟨p1, p2, p3, p4, p5, p6, p7, p8⟩ := hh (6 * fc + t) (by omega)
  obtain ⟨r1, r2, r3, r4, r5⟩ := hr.1 (6 * fc + t) (by omega)
  have n1 : ¬ nI (hTop O fc) ≤ 0 := fun q => c1 ((nI_le0 (by omega)).mp q)
  have n2 : ¬ nI (hTop O fc) = 0 := fun q => c1 ((nI_e0 (by omega)).mp q)
  have ix : nI fc * 6 + nI (hTop O fc) - 1 = nI (6 * fc + t) := by
    rw [show (6 : Int32) = nI 6 from rfl, pk_mul, nI_add, et, ← Nat.add_assoc, nI_pred, Nat.mul_comm]
  have ix2 : nI (144 * w + 6 * fc) + nI (hTop O fc) - 1 = nI (144 * w + (6 * fc + t)) := by
    rw [nI_add, et, ← Nat.add_assoc, nI_pred, Nat.add_assoc]
  by_cases cq : Q (6 * fc + t) = 0
  · refine stay ?_ ?_
    · unfold fX5_flowOver_25 fX8_topIsSoup
      rw [F1, p_cq, if_neg n1, hst.2.1, ix, p_rdN (by omega) (by omega), p4, cq, if_neg (show ¬ nI 0 = 1 by decide), p_cq, if_pos rfl]
    · rw [if_neg n2, ix2, p_rdN (by omega) (by omega), p8, cq, if_pos (show nI 0 = 0 from rfl)]
      split <;> rfl
  have cq1 : Q (6 * fc + t) = 1 := by omega
  by_cases c6 : s = 6
  · refine stay ?_ ?_
    · unfold fX5_flowOver_25 fX8_topIsSoup
      rw [F1, p_cq, if_neg n1, hst.2.1, ix, p_rdN (by omega) (by omega), p4, cq1, if_pos (show nI 1 = 1 from rfl), p_cq, if_neg n10, T1, p_cq]
      by_cases q : nI (hTop O fc) - nI (if x < 10 then 1 else 0) < nI s
      · rw [if_pos q]
      · rw [if_neg q]
        unfold fX8_moveTopF
        rw [F1, p_cq, T1, p_cq, if_neg n2, hst.1, wi_t (v := nI tc) (b := 24) ⟨nI_pos' (by omega), nI_lt (b := 24) ht (by omega)⟩, if_neg n10, hst.2.1, c6, if_neg (show ¬ nI 6 < 6 by decide)]; rfl
    · rw [if_neg n2, c6, if_pos (show nI 6 = 6 from rfl)]
  have n6 : ¬ nI s = 6 := fun q => c6 ((nI_eq (b := 6) (by omega) (by omega)).mp q)
  have y1 : (if x < 10 then 1 else 0) ≤ 1 := by split <;> omega
  have cond : nI (hTop O fc) - nI (if x < 10 then 1 else 0) < nI s ↔ ¬ nI s ≤ nI (hTop O fc) - 1 + nI (if x < 10 then 0 else 1) := by
    rw [et, nI_pred, nI_add]
    by_cases c : x < 10
    · rw [if_pos c, if_pos c, show nI (t + 1) - nI 1 = nI t from nI_pred t, nI_ltI (by omega) (by omega), nI_leI (by omega) (by omega)]; omega
    · rw [if_neg c, if_neg c, show nI (t + 1) - nI 0 = nI (t + 1) from pk_sub (by omega), nI_ltI (by omega) (by omega), nI_leI (by omega) (by omega)]; omega
  by_cases q : nI (hTop O fc) - nI (if x < 10 then 1 else 0) < nI s
  · refine stay ?_ ?_
    · unfold fX5_flowOver_25 fX8_topIsSoup
      rw [F1, p_cq, if_neg n1, hst.2.1, ix, p_rdN (by omega) (by omega), p4, cq1, if_pos (show nI 1 = 1 from rfl), p_cq, if_neg n10, T1, p_cq, if_pos q]
    · rw [if_neg n2, if_neg n6, ix2, p_rdN (by omega) (by omega), p8, cq1, if_neg (show ¬ nI 1 = 0 by decide)]
      unfold fX11_flows_88
      rw [if_neg (cond.mp q)]
  have iq : nI tc * 6 + nI s = nI (6 * tc + s) := by
    rw [show (6 : Int32) = nI 6 from rfl, pk_mul, nI_add, Nat.mul_comm]
  have iq2 : nI (144 * w + 6 * tc) + nI s = nI (144 * w + (6 * tc + s)) := by rw [nI_add, Nat.add_assoc]
  have pq : ¬ 6 * tc + s = 6 * fc + t := by omega
  obtain ⟨σ', s0, s1, s2, s3, s4, s5⟩ := put8 (σ := σ) (a := b + 2 + 1) (b := b + 2 + 2) (c := b + 2 + 3) (d := b + 2 + 4) (p := 6 * fc + t) (q := 6 * tc + s) (v1 := nI (O (6 * fc + t))) (v2 := nI (W (6 * fc + t))) (v3 := nI (K (6 * fc + t))) (v4 := nI (Q (6 * fc + t))) (by omega) (by omega) (by omega) (by omega) (by omega) (by omega)
  obtain ⟨τ', t0, t1, t2, t3, t4, t5⟩ := put8 (σ := τ) (a := 5) (b := 6) (c := 7) (d := 8) (p := 144 * w + (6 * fc + t)) (q := 144 * w + (6 * tc + s)) (v1 := nI (O (6 * fc + t))) (v2 := nI (W (6 * fc + t))) (v3 := nI (K (6 * fc + t))) (v4 := 1) (by omega) (by omega) (by omega) (by omega) (by omega) (by omega)
  have z0 : ∀ f : Nat → Int32, (∀ j, j < 144 → f j = f (0 + j)) := fun f j _ => by rw [Nat.zero_add]
  refine ⟨σ', τ', mvN O (6 * fc + t) (6 * tc + s), mvN W (6 * fc + t) (6 * tc + s), mvN K (6 * fc + t) (6 * tc + s), mvN Q (6 * fc + t) (6 * tc + s), ?_, ?_, mv_hold hr hf ht ne et es (by omega), ?_, ?_, ?_, ?_⟩
  · unfold fX5_flowOver_25 fX8_topIsSoup
    rw [F1, p_cq, if_neg n1, hst.2.1, ix, p_rdN (by omega) (by omega), p4, cq1, if_pos (show nI 1 = 1 from rfl), p_cq, if_neg n10, T1, p_cq, if_neg q]
    unfold fX8_moveTopF
    rw [F1, p_cq, T1, p_cq, if_neg n2, hst.1, wi_t (v := nI tc) (b := 24) ⟨nI_pos' (by omega), nI_lt (b := 24) ht (by omega)⟩, if_neg n10, hst.2.1, if_pos (show nI s < 6 from nI_lt (b := 6) (by omega) (by omega)), ix, iq, sb]
    rw [p_rdN (by omega) (by omega), p1, p_wrN (by omega) (by omega), p_rdN (by omega) (by omega), sp_ne (a := b + 2 + 2) (by omega), p2, p_wrN (by omega) (by omega), p_rdN (by omega) (by omega), sp_ne (a := b + 2 + 3) (by omega), sp_ne (a := b + 2 + 3) (by omega), p3, p_wrN (by omega) (by omega), p_rdN (by omega) (by omega), sp_ne (a := b + 2 + 4) (by omega), sp_ne (a := b + 2 + 4) (by omega), sp_ne (a := b + 2 + 4) (by omega), p4, p_wrN (by omega) (by omega), p_wrN (by omega) (by omega), p_wrN (by omega) (by omega), p_wrN (by omega) (by omega), p_wrN (by omega) (by omega), p_cb, s0]
  · rw [if_neg n2, if_neg n6, ix2, p_rdN (by omega) (by omega), p8, cq1, if_neg (show ¬ nI 1 = 0 by decide)]
    unfold fX11_flows_88
    rw [if_pos (Decidable.not_not.mp (fun h => q (cond.mpr h))), ix2, iq2]
    rw [p_rdN (by omega) (by omega), p5, p_wrN (by omega) (by omega), p_rdN (by omega) (by omega), sp_ne (a := 6) (by omega), p6, p_wrN (by omega) (by omega), p_rdN (by omega) (by omega), sp_ne (a := 7) (by omega), sp_ne (a := 7) (by omega), p7, p_wrN (by omega) (by omega), bo1, bo0, p_wrN (by omega) (by omega), p_wrN (by omega) (by omega), p_wrN (by omega) (by omega), p_wrN (by omega) (by omega), p_wrN (by omega) (by omega), t0]
  · intro j hj
    have m1 := fun j hj => (hh j hj).1
    refine ⟨?_, ?_, ?_, ?_, ?_, ?_, ?_, ?_⟩
    · rw [s1]; have := mvN_I (F := O) (f := σ (b + 2 + 1)) (base := 0) pq rfl (fun j hj => by rw [Nat.zero_add]; exact (hh j hj).1) j hj; simpa only [Nat.zero_add] using this
    · rw [s2]; have := mvN_I (F := W) (f := σ (b + 2 + 2)) (base := 0) pq rfl (fun j hj => by rw [Nat.zero_add]; exact (hh j hj).2.1) j hj; simpa only [Nat.zero_add] using this
    · rw [s3]; have := mvN_I (F := K) (f := σ (b + 2 + 3)) (base := 0) pq rfl (fun j hj => by rw [Nat.zero_add]; exact (hh j hj).2.2.1) j hj; simpa only [Nat.zero_add] using this
    · rw [s4]; have := mvN_I (F := Q) (f := σ (b + 2 + 4)) (base := 0) pq rfl (fun j hj => by rw [Nat.zero_add]; exact (hh j hj).2.2.2.1) j hj; simpa only [Nat.zero_add] using this
    · rw [t1]; exact mvN_I (F := O) pq rfl (fun j hj => (hh j hj).2.2.2.2.1) j hj
    · rw [t2]; exact mvN_I (F := W) pq rfl (fun j hj => (hh j hj).2.2.2.2.2.1) j hj
    · rw [t3]; exact mvN_I (F := K) pq rfl (fun j hj => (hh j hj).2.2.2.2.2.2.1) j hj
    · rw [t4]; exact mvN_I (F := Q) pq (by rw [cq1]; rfl) (fun j hj => (hh j hj).2.2.2.2.2.2.2) j hj
  · intro a ha; exact s5 a (by omega) (by omega) (by omega) (by omega)
  · refine ⟨fun a h1 h2 h3 h4 => t5 a (by omega) (by omega) (by omega) (by omega), fun a j h1 h2 h3 => ?_, fun a j h1 h2 h3 => by rw [t5 a (by omega) (by omega) (by omega) (by omega)]⟩
    have : a = 5 ∨ a = 6 ∨ a = 7 ∨ a = 8 := by omega
    rcases this with rfl | rfl | rfl | rfl
    · rw [t1, mvP_o (by omega) (by omega)]
    · rw [t2, mvP_o (by omega) (by omega)]
    · rw [t3, mvP_o (by omega) (by omega)]
    · rw [t4, mvP_o (by omega) (by omega)]
  · intro a ha; exact t5 a (by omega) (by omega) (by omega) (by omega)
