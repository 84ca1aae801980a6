/-! who may load, who says no -/
def codeC (σ : St) (w : Nat) (Q : Pg) : Prop := fW w ∧ okPg 8 3 mpC Q ∧ σ 30 0 = nI w ∧ r_wordsAt σ w Q
def codeM (τ : St) (Q : Pg) : Prop := okPg 8 3 mpC Q ∧ r_rowsAt τ 1 4 mpC Q
theorem g_code {σ τ : St} (h : Rel σ τ) : ∃ w Q, codeC σ w Q ∧ codeM τ Q ∧ r_ways (σ 30 1) (σ 31) (σ 32) Q := by
  obtain ⟨P, Q, x, y, w, fx, fy, fw, n1, n2, n3, e1, e2, e3, g1, g2, g3, g4, g5, g6, g7⟩ := g_txt h
  exact ⟨w, Q, ⟨fw, g2, e3, g5⟩, ⟨g2, g6⟩, g7⟩
theorem codeC_fr {σ σ' : St} {y : Nat} {P : Pg} (h : codeC σ y P) (h30 : σ' 30 0 = σ 30 0) (hs : ∀ a, y ≤ a → a < y + 6 → σ' a = σ a) : codeC σ' y P := by
  obtain ⟨h1, h2, h3, h4⟩ := h
  refine ⟨h1, h2, by rw [h30]; exact h3, ?_⟩
  unfold r_wordsAt at *
  rw [hs y (by omega) (by omega), hs (y + 1) (by omega) (by omega), hs (y + 2) (by omega) (by omega), hs (y + 3) (by omega) (by omega), hs (y + 4) (by omega) (by omega), hs (y + 5) (by omega) (by omega)]
  exact h4
theorem codeC_2 {σ σ' : St} {y : Nat} {P : Pg} (h : codeC σ y P) (hs : same2 33 (y + 6) σ σ') : codeC σ' y P := by
  have := fW_ge h.1
  exact codeC_fr h (by rw [hs 30 (by omega) (by omega)]) (fun a h1 h2 => hs a (by omega) (by omega))
theorem codeM_fr {τ τ' : St} {P : Pg} (h : codeM τ P) (hs : ∀ a, 15 ≤ a → a ≤ 22 → τ' a = τ a) : codeM τ' P := by
  refine ⟨h.1, ?_⟩
  have h2 := h.2
  unfold r_rowsAt at *
  rw [hs 15 (by omega) (by omega), hs 16 (by omega) (by omega), hs 17 (by omega) (by omega), hs 18 (by omega) (by omega), hs 19 (by omega) (by omega), hs 20 (by omega) (by omega), hs 21 (by omega) (by omega), hs 22 (by omega) (by omega)]
  exact h2
theorem codeM_2 {τ τ' : St} {P : Pg} (h : codeM τ P) (hs : same2 24 25 τ τ') : codeM τ' P := codeM_fr h (fun a h1 h2 => hs a (by omega) (by omega))
theorem ask_C {σ : St} {w h : Nat} {Q : Pg} {env : Nat → Int32} (p : Int32) (hc : codeC σ w Q) (hh : h < 3) (he : ∀ j, j < 8 → σ 33 j = env j) : ∃ σ', fX1_someLine σ (nI h) p = some (bI (someP env h p Q), σ') ∧ sameX (w + 6) σ σ' := by
  obtain ⟨h1, h2, h3, h4⟩ := hc
  have := some_C (p := p) (env := env) h1 h2 hh Q.length 0 FU σ (by omega) (by rw [FU_eq]; have := h2.1; omega) h3 h4 he
  rw [List.drop_zero] at this
  exact this
theorem ask_M {τ : St} {h : Nat} {Q : Pg} {env : Nat → Int32} (p : Int32) (hc : codeM τ Q) (hh : h < 3) (he : ∀ j, j < 8 → τ 24 (mpC j) = env j) : ∃ τ', fX11_isSo τ (nI (4 + h)) p = some (bI (someP env h p Q), τ') ∧ sameX 25 τ τ' := by
  obtain ⟨h2, h4⟩ := hc
  have := some_M (p := p) (env := env) h2 hh Q.length 0 FU τ (by omega) (by rw [FU_eq]; have := h2.1; omega) h4 he
  rw [List.drop_zero] at this
  exact this
theorem setPapers_C (σ : St) (a b c d : Int32) : ∃ σ', fX1_setPapers σ a b c d = some σ' ∧ sameX 33 σ σ' ∧ σ' 33 0 = a ∧ σ' 33 1 = b ∧ σ' 33 2 = c ∧ σ' 33 3 = d ∧ ∀ j, 4 ≤ j → σ' 33 j = σ 33 j := by
  unfold fX1_setPapers
  rw [p_wrL 0 0 rfl (by omega) (by omega), p_wrL 1 1 rfl (by omega) (by omega), p_wrL 2 2 rfl (by omega) (by omega), p_wrL 3 3 rfl (by omega) (by omega)]
  refine ⟨_, rfl, fun a ha => by rw [sp_ne ha, sp_ne ha, sp_ne ha, sp_ne ha], ?_, ?_, ?_, ?_, fun j hj => ?_⟩
  · simp [st_put, st_row, upd]
  · simp [st_put, st_row, upd]
  · simp [st_put, st_row, upd]
  · simp [st_put, st_row, upd]
  · rw [sp_same, up_ne (by omega), sp_same, up_ne (by omega), sp_same, up_ne (by omega), sp_same, up_ne (by omega)]
theorem setVoyage_C (σ : St) (a b c d : Int32) : ∃ σ', fX1_setVoyage σ a b c d = some σ' ∧ sameX 33 σ σ' ∧ σ' 33 4 = a ∧ σ' 33 5 = b ∧ σ' 33 6 = c ∧ σ' 33 7 = d ∧ ∀ j, j < 4 → σ' 33 j = σ 33 j := by
  unfold fX1_setVoyage
  rw [p_wrL 4 4 rfl (by omega) (by omega), p_wrL 5 5 rfl (by omega) (by omega), p_wrL 6 6 rfl (by omega) (by omega), p_wrL 7 7 rfl (by omega) (by omega)]
  refine ⟨_, rfl, fun a ha => by rw [sp_ne ha, sp_ne ha, sp_ne ha, sp_ne ha], ?_, ?_, ?_, ?_, fun j hj => ?_⟩
  · simp [st_put, st_row, upd]
  · simp [st_put, st_row, upd]
  · simp [st_put, st_row, upd]
  · simp [st_put, st_row, upd]
  · rw [sp_same, up_ne (by omega), sp_same, up_ne (by omega), sp_same, up_ne (by omega), sp_same, up_ne (by omega)]
def envP (a b c d e f g p : Int32) : Nat → Int32 := fun n => if n = 0 then a else if n = 1 then b else if n = 2 then c else if n = 3 then d else if n = 4 then e else if n = 5 then f else if n = 6 then g else p
theorem lt8 {j : Nat} (h : j < 8) : j = 0 ∨ j = 1 ∨ j = 2 ∨ j = 3 ∨ j = 4 ∨ j = 5 ∨ j = 6 ∨ j = 7 := by omega
theorem envP_of {F : Nat → Int32} {a b c d e f g p : Int32} (h0 : F 0 = a) (h1 : F 1 = b) (h2 : F 2 = c) (h3 : F 3 = d) (h4 : F 4 = e) (h5 : F 5 = f) (h6 : F 6 = g) (h7 : F 7 = p) : ∀ j, j < 8 → F j = envP a b c d e f g p j := by
  intro j hj
  rcases lt8 hj with rfl | rfl | rfl | rfl | rfl | rfl | rfl | rfl
  · exact h0
  · exact h1
  · exact h2
  · exact h3
  · exact h4
  · exact h5
  · exact h6
  · exact h7
theorem envP_ofM {F : Nat → Int32} {a b c d e f g p : Int32} (h0 : F 9 = a) (h1 : F 10 = b) (h2 : F 11 = c) (h3 : F 5 = d) (h4 : F 12 = e) (h5 : F 13 = f) (h6 : F 14 = g) (h7 : F 15 = p) : ∀ j, j < 8 → F (mpC j) = envP a b c d e f g p j := envP_of (F := fun j => F (mpC j)) h0 h1 h2 h3 h4 h5 h6 h7
/-- the last can, and how old it is -/
theorem last_both {σ τ : St} (h : Rel σ τ) : ∃ v a : Int32, fX0_lastWet σ = some v ∧ fX0_age σ (σ 0 12) = some a ∧ ((τ 0 48 = 0 ∧ v = 0 ∧ a = 99) ∨ (¬ τ 0 48 = 0 ∧ ∃ m : Nat, m < 60 ∧ τ 0 48 - 1 = nI m ∧ τ 32 m = v ∧ (if τ 0 1 - τ 31 m ≤ 99 then τ 0 1 - τ 31 m else 99) = a)) := by
  obtain ⟨n, hn, e1, e2, hc⟩ := g_cans h
  obtain ⟨N, hN, n1, n2⟩ := g_now h
  unfold fX0_lastWet fX0_age
  rw [e1]
  by_cases c : n = 0
  · subst c
    rw [wi_f (show ¬ (0 ≤ nI 0 - 1 ∧ nI 0 - 1 < 60) by decide), if_pos rfl, if_pos rfl]
    exact ⟨0, 99, rfl, rfl, Or.inl ⟨e2, rfl, rfl⟩⟩
  have p1 : nI n - 1 = nI (n - 1) := by
    have := nI_pred (n - 1)
    rwa [show n - 1 + 1 = n by omega] at this
  obtain ⟨_, ⟨wv, _, w1, w2⟩, hh, N', a1, a2, a3, a4, a5⟩ := hc (n - 1) (by omega)
  rw [p1, wi_t (v := nI (n - 1)) (b := 60) ⟨nI_pos' (by omega), nI_lt (b := 60) (by omega) (by omega)⟩, if_neg n10, if_neg n10, p_rdN (by omega) (by omega), p_rdN (by omega) (by omega)]
  refine ⟨_, _, rfl, rfl, Or.inr ⟨by rw [e2]; exact fun q => c ((nI_e0 (by omega)).mp q), n - 1, by omega, by rw [e2]; exact p1, by rw [w1, w2], ?_⟩⟩
  rw [n1, n2, a4, a5]
  generalize nI N - nI hh = d
  by_cases q : d ≤ 99
  · rw [if_pos q, if_neg (show ¬ 99 < d by grind)]
  · rw [if_neg q, if_pos (show 99 < d by grind)]
theorem rel_code {σ σ' τ τ' : St} {y : Nat} (hy : fW y) (h : Rel σ τ) (hC : same2 33 (y + 6) σ σ') (hM : same2 24 25 τ τ') : Rel σ' τ' := by
  refine rel_scr h (fun a ha => hC a (fun q => ?_) (fun q => ?_)) (fun a ha => hM a (fun q => ?_) (fun q => ?_))
  · subst q; exact absurd ha (by decide)
  · subst q; rcases hy with rfl | rfl | rfl <;> exact absurd ha (by decide)
  · subst q; exact absurd ha (by decide)
  · subst q; exact absurd ha (by decide)
theorem may126_M {τ : St} {N rn sl h ld pt : Nat} {s c a p : Int32} {Q : Pg} (hN : N < 720) (hh : h < 3) (en : τ 0 1 = nI N) (er : τ 1 (N / 24) = nI rn) (es : τ 2 (N / 24) = nI sl) (el : ∀ τ', sameX 24 τ τ' → fX11_loaded τ' = some (nI ld)) (ep : pt = if τ 0 13 = 0 then 1 else 0) (hc : codeM τ Q) (e9 : τ 24 9 = s) (e10 : τ 24 10 = c) : ∃ τ', fX11_may_126 τ p (nI h) a 11 = some (bI (someP (envP s c a (nI rn) (nI (N / 24)) (nI ld) (nI sl) (nI pt)) h p Q), τ') ∧ same2 24 25 τ τ' := by
  unfold fX11_may_126
  have dv : nI N / 24 = nI (N / 24) := by rw [show (24 : Int32) = nI 24 from rfl, pk_div (by omega) (by omega) (by omega)]
  rw [p_wrL 11 11 rfl (by omega) (by omega), sp_ne (a := 0) (by omega), sp_ne (a := 1) (by omega), en, dv, p_rdN (by omega) (by omega), er, p_wrL 5 5 rfl (by omega) (by omega), sp_ne (a := 0) (by omega), sp_ne (a := 0) (by omega), en, dv, p_wrL 12 12 rfl (by omega) (by omega)]
  rw [el _ (fun a ha => by rw [sp_ne ha, sp_ne ha, sp_ne ha]), p_cq, p_wrL 13 13 rfl (by omega) (by omega)]
  rw [sp_ne (a := 0) (by omega), sp_ne (a := 0) (by omega), sp_ne (a := 0) (by omega), sp_ne (a := 0) (by omega), sp_ne (a := 2) (by omega), sp_ne (a := 2) (by omega), sp_ne (a := 2) (by omega), sp_ne (a := 2) (by omega), en, dv, p_rdN (by omega) (by omega), es, p_wrL 14 14 rfl (by omega) (by omega)]
  generalize hT : st_put (st_put (st_put (st_put (st_put τ 24 11 a) 24 5 (nI rn)) 24 12 (nI (N / 24))) 24 13 (nI ld)) 24 14 (nI sl) = T
  have t0 : sameX 24 τ T := fun a ha => by rw [← hT, sp_ne ha, sp_ne ha, sp_ne ha, sp_ne ha, sp_ne ha]
  have fin : ∀ v : Int32, v = nI pt → ∃ τ', fX11_may_207 T p (nI h) v 15 = some (bI (someP (envP s c a (nI rn) (nI (N / 24)) (nI ld) (nI sl) (nI pt)) h p Q), τ') ∧ same2 24 25 τ τ' := by
    intro v hv
    unfold fX11_may_207
    rw [p_wrL 15 15 rfl (by omega) (by omega)]
    have t1 : sameX 24 τ (st_put T 24 15 v) := fun a ha => by rw [sp_ne ha, t0 a ha]
    obtain ⟨τ', g1, g2⟩ := ask_M (τ := st_put T 24 15 v) (h := h) (Q := Q) (env := envP s c a (nI rn) (nI (N / 24)) (nI ld) (nI sl) (nI pt)) p (codeM_fr hc (fun a h1 h2 => t1 a (by omega))) hh (envP_ofM (by rw [← hT]; simpa [st_put, st_row, upd] using e9) (by rw [← hT]; simpa [st_put, st_row, upd] using e10) (by rw [← hT]; simp [st_put, st_row, upd]) (by rw [← hT]; simp [st_put, st_row, upd]) (by rw [← hT]; simp [st_put, st_row, upd]) (by rw [← hT]; simp [st_put, st_row, upd]) (by rw [← hT]; simp [st_put, st_row, upd]) (by simpa [st_put, st_row, upd] using hv))
    rw [show (4 : Int32) + nI h = nI (4 + h) by rw [show (4 : Int32) = nI 4 from rfl, nI_add], g1, p_cb]
    refine ⟨τ', ?_, fun a h1 h2 => by rw [g2 a h2, t1 a h1]⟩
    cases someP (envP s c a (nI rn) (nI (N / 24)) (nI ld) (nI sl) (nI pt)) h p Q <;> rfl
  rw [t0 0 (by omega)]
  by_cases q : τ 0 13 = 0
  · rw [if_pos q]; exact fin 1 (by rw [ep, if_pos q]; rfl)
  · rw [if_neg q]; exact fin 0 (by rw [ep, if_neg q]; rfl)
theorem opp_24 : op_24 Rel := by
  intro σ τ0 a0 a1 h0
  have h := rel_told h0 0
  generalize hτ : st_put τ0 0 0 0 = τ at h
  unfold fX10_may fX11_may
  rw [p_nmS, hτ]
  by_cases c0 : ¬ (0 ≤ a0 ∧ a0 < 4)
  · rw [wi_f c0, ii_f (show ¬ (0 ≤ a0 ∧ a0 ≤ 3) by grind), if_pos rfl, if_pos rfl]
    exact ⟨_, _, _, rfl, rfl, h⟩
  have c0 := Decidable.not_not.mp c0
  rw [wi_t c0, ii_t (show 0 ≤ a0 ∧ a0 ≤ 3 by grind), if_neg n10, if_neg n10]
  by_cases c1 : ¬ (0 ≤ a1 ∧ a1 < 3)
  · rw [wi_f c1, ii_f (show ¬ (0 ≤ a1 ∧ a1 ≤ 2) by grind), if_pos rfl, if_pos rfl]
    exact ⟨_, _, _, rfl, rfl, h⟩
  have c1 := Decidable.not_not.mp c1
  rw [wi_t c1, ii_t (show 0 ≤ a1 ∧ a1 ≤ 2 by grind), if_neg n10, if_neg n10]
  obtain ⟨hd, hh, rfl⟩ := i_of (n := 3) (by omega) c1.1 c1.2
  obtain ⟨w, Q, hC, hM, hw⟩ := g_code h
  have w44 := fW_ge hC.1
  obtain ⟨O, W, K, P, hr, hhW⟩ := g_hW h
  obtain ⟨ld, hld, ldC, ldM⟩ := ore_both hr hhW 144 0 FU 0 (by omega) (by rw [FU_eq]; omega) (by omega)
  have elC : ∀ σ', sameX 33 σ σ' → fX8_cellsWithOre (10 + 2) σ' = some (nI ld) := by
    intro σ' hs
    obtain ⟨r, _, q1, q2⟩ := ore_both (σ := σ') (τ := τ) hr (by unfold r_hW at *; rw [hs _ (by omega), hs _ (by omega), hs _ (by omega), hs _ (by omega)]; exact hhW) 144 0 FU 0 (by omega) (by rw [FU_eq]; omega) (by omega)
    rw [ldM] at q2
    rw [q2]; exact q1
  have elM : ∀ τ', sameX 24 τ τ' → fX11_loaded τ' = some (nI ld) := by
    intro τ' hs
    obtain ⟨r, _, q1, q2⟩ := ore_both (σ := σ) (τ := τ') hr (by unfold r_hW at *; rw [hs _ (by omega), hs _ (by omega), hs _ (by omega), hs _ (by omega)]; exact hhW) 144 0 FU 0 (by omega) (by rw [FU_eq]; omega) (by omega)
    rw [ldC] at q1
    rw [q1]; exact q2
  obtain ⟨N, hN, n1, n2⟩ := g_now h
  obtain ⟨⟨rn, _, rn1, rn2⟩, sl, _, sl1, sl2⟩ := g_sky h (N / 24) (by omega)
  obtain ⟨pt, hpt, pt1, pt2⟩ := g_sea h
  obtain ⟨sd1, sd2⟩ := g_said h
  obtain ⟨v, a, l1, l2, l3⟩ := last_both h
  have dv : nI N / 24 = nI (N / 24) := by rw [show (24 : Int32) = nI 24 from rfl, pk_div (by omega) (by omega) (by omega)]
  generalize hs : (if τ 0 53 = -1 then (0 : Int32) else τ 0 53) = s
  generalize hq : (if τ 0 13 = 0 then 1 else 0) = pn
  have main : ∀ s', s' = s → ∃ σ1, fX10_may_38 σ a0 (nI hd) s' = some (bI (someP (envP s v a (nI rn) (nI (N / 24)) (nI ld) (nI sl) (nI pn)) hd a0 Q), σ1) ∧ same2 33 (w + 6) σ σ1 := by
    intro s' es
    subst es
    unfold fX10_may_38
    obtain ⟨σ8, u1, u2, u3, u4, u5, u6, u7⟩ := setPapers_C σ s' v a (nI rn)
    rw [l1, p_cq, l2, p_cq, n1, rain_C (by omega) rn1, p_cq, u1, p_cv, elC σ8 u2, p_cq, u2 0 (by omega), n1, swell_C (r := sl) (by omega) (by rw [u2 4 (by omega)]; exact sl1), p_cq, u2 10 (by omega), dv]
    have fin : ∀ x : Int32, x = nI pn → ∃ σ1, fX10_may_117 σ8 a0 (nI hd) x (nI sl) (nI ld) (nI (N / 24)) = some (bI (someP (envP s' v a (nI rn) (nI (N / 24)) (nI ld) (nI sl) (nI pn)) hd a0 Q), σ1) ∧ same2 33 (w + 6) σ σ1 := by
      intro x hx
      unfold fX10_may_117
      obtain ⟨σ9, v1, v2, v3, v4, v5, v6, v7⟩ := setVoyage_C σ8 (nI (N / 24)) (nI ld) (nI sl) x
      have s9 : same2 33 (w + 6) σ σ9 := fun a ha _ => by rw [v2 a ha, u2 a ha]
      obtain ⟨σ', g1, g2⟩ := ask_C (env := envP s' v a (nI rn) (nI (N / 24)) (nI ld) (nI sl) (nI pn)) a0 (codeC_2 hC s9) hh (envP_of (by rw [v7 0 (by omega), u3]) (by rw [v7 1 (by omega), u4]) (by rw [v7 2 (by omega), u5]) (by rw [v7 3 (by omega), u6]) v3 v4 v5 (by rw [v6, hx]))
      rw [v1, p_cv, g1, p_cb]
      refine ⟨σ', ?_, fun a h1 h2 => by rw [g2 a h2, s9 a h1 h2]⟩
      cases someP (envP s' v a (nI rn) (nI (N / 24)) (nI ld) (nI sl) (nI pn)) hd a0 Q <;> rfl
    rw [pt1]
    rw [pt2] at hq
    by_cases q : nI pt = 0
    · rw [if_pos q]; rw [if_pos q] at hq; exact fin 1 (by rw [← hq]; rfl)
    · rw [if_neg q]; rw [if_neg q] at hq; exact fin 0 (by rw [← hq]; rfl)
  have CC : ∃ σ1, (if σ 0 13 = -1 then fX10_may_38 σ a0 (nI hd) 0 else fX10_may_38 σ a0 (nI hd) (σ 0 13)) = some (bI (someP (envP s v a (nI rn) (nI (N / 24)) (nI ld) (nI sl) (nI pn)) hd a0 Q), σ1) ∧ same2 33 (w + 6) σ σ1 := by
    rw [sd1]
    by_cases q : τ 0 53 = -1
    · rw [if_pos q]; rw [if_pos q] at hs; exact main 0 hs
    · rw [if_neg q]; rw [if_neg q] at hs; exact main _ hs
  obtain ⟨σ1, g1, g2⟩ := CC
  rw [g1]
  have fin : ∀ (τ2 : St) (x3 y10 : Int32), sameX 24 τ τ2 → (if x3 ≤ 99 then x3 else 99) = a → y10 = v → τ2 24 9 = s → ∃ τ', fX11_may_107 τ2 a0 (nI hd) x3 y10 10 = some (bI (someP (envP s v a (nI rn) (nI (N / 24)) (nI ld) (nI sl) (nI pn)) hd a0 Q), τ') ∧ same2 24 25 τ τ' := by
    intro τ2 x3 y10 hx ha hv h9
    unfold fX11_may_107
    rw [p_wrL 10 10 rfl (by omega) (by omega)]
    have t1 : sameX 24 τ (st_put τ2 24 10 y10) := fun a ha => by rw [sp_ne ha, hx a ha]
    obtain ⟨τ', k1, k2⟩ := may126_M (τ := st_put τ2 24 10 y10) (N := N) (rn := rn) (sl := sl) (h := hd) (ld := ld) (pt := pn) (s := s) (c := v) (a := a) (p := a0) (Q := Q) (by omega) hh (by rw [t1 0 (by omega)]; exact n2) (by rw [t1 1 (by omega)]; exact rn2) (by rw [t1 2 (by omega)]; exact sl2) (fun τ' hs => elM τ' (sameX_t t1 hs)) (by rw [t1 0 (by omega)]; exact hq.symm) (codeM_fr hM (fun a h1 h2 => t1 a (by omega))) (by rw [sp_same, up_ne (by omega)]; exact h9) (by rw [sp_same, up_same]; exact hv)
    refine ⟨τ', ?_, fun a h1 h2 => by rw [k2 a h1 h2, t1 a h1]⟩
    by_cases q : x3 ≤ 99
    · rw [if_pos q]; rw [if_pos q] at ha; rw [ha]; exact k1
    · rw [if_neg q]; rw [if_neg q] at ha; rw [ha]; exact k1
  have f55 : ∀ x3 : Int32, (if x3 ≤ 99 then x3 else 99) = a → ∃ τ', fX11_may_55 τ a0 (nI hd) x3 = some (bI (someP (envP s v a (nI rn) (nI (N / 24)) (nI ld) (nI sl) (nI pn)) hd a0 Q), τ') ∧ same2 24 25 τ τ' := by
    intro x3 ha
    unfold fX11_may_55
    have e78 : ∀ y0, y0 = s → ∃ τ', fX11_may_78 τ a0 (nI hd) x3 y0 9 = some (bI (someP (envP s v a (nI rn) (nI (N / 24)) (nI ld) (nI sl) (nI pn)) hd a0 Q), τ') ∧ same2 24 25 τ τ' := by
      intro y0 hy
      unfold fX11_may_78
      rw [p_wrL 9 9 rfl (by omega) (by omega), sp_ne (a := 0) (by omega)]
      have t9 : sameX 24 τ (st_put τ 24 9 y0) := fun a ha => sp_ne ha
      have u9 : st_put τ 24 9 y0 24 9 = s := by rw [sp_same, up_same]; exact hy
      rcases l3 with ⟨q1, q2, q3⟩ | ⟨q1, m, hm, q2, q3, q4⟩
      · rw [if_pos q1]; exact fin _ x3 0 t9 ha q2.symm u9
      · rw [if_neg q1, q2, p_rdN hm (by omega), sp_ne (a := 32) (by omega), q3]; exact fin _ x3 v t9 ha rfl u9
    by_cases q : τ 0 53 = -1
    · rw [if_pos q]; rw [if_pos q] at hs; exact e78 0 hs
    · rw [if_neg q]; rw [if_neg q] at hs; exact e78 _ hs
  have MM : ∃ τ', (if τ 0 48 = 0 then fX11_may_55 τ a0 (nI hd) 99 else rdK 60 (τ 31) (τ 0 48 - 1) fun v5 => fX11_may_55 τ a0 (nI hd) (τ 0 1 - v5)) = some (bI (someP (envP s v a (nI rn) (nI (N / 24)) (nI ld) (nI sl) (nI pn)) hd a0 Q), τ') ∧ same2 24 25 τ τ' := by
    rcases l3 with ⟨q1, q2, q3⟩ | ⟨q1, m, hm, q2, q3, q4⟩
    · rw [if_pos q1]; exact f55 99 (by rw [if_pos (show (99 : Int32) ≤ 99 by decide)]; exact q3.symm)
    · rw [if_neg q1, q2, p_rdN hm (by omega)]; exact f55 _ q4
  obtain ⟨τ', k1, k2⟩ := MM
  rw [k1]
  exact ⟨_, _, _, rfl, rfl, rel_code hC.1 h g2 k2⟩
