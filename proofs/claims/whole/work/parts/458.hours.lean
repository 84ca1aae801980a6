/-! hours -/
theorem rs_now {σ τ : St} {N : Nat} (hN : N + 1 ≤ 719) (en : σ 0 12 = nI N) (h : Rel σ τ) : Rel (st_put σ 0 12 (nI (N + 1))) (st_put τ 0 1 (nI (N + 1))) := by
  obtain ⟨h1, h2, h3, h4, h5, h6, h7, h8, h9, h10, h11, h12, h13, h14, h15, h16, h17, h18, h19, h20, h21, h22, h23, h24, h25, h26⟩ := h
  have cC : ∀ a, ¬ a = 0 → st_put σ 0 12 (nI (N + 1)) a = σ a := fun a ha => sp_ne ha
  have cM : ∀ a, ¬ a = 0 → st_put τ 0 1 (nI (N + 1)) a = τ a := fun a ha => sp_ne ha
  have oC : ∀ j, ¬ j = 12 → st_put σ 0 12 (nI (N + 1)) 0 j = σ 0 j := fun j hj => by rw [sp_same, up_ne hj]
  have oM : ∀ j, ¬ j = 1 → st_put τ 0 1 (nI (N + 1)) 0 j = τ 0 j := fun j hj => by rw [sp_same, up_ne hj]
  have nC : st_put σ 0 12 (nI (N + 1)) 0 12 = nI (N + 1) := by rw [sp_same, up_same]
  have nM : st_put τ 0 1 (nI (N + 1)) 0 1 = nI (N + 1) := by rw [sp_same, up_same]
  refine ⟨⟨N + 1, hN, nC, nM⟩, ?_, ?_, ?_, ?_, ?_, ?_, ?_, ?_, ?_, ?_, ?_, ?_, ?_, ?_, ?_, ?_, ?_, ?_, ?_, ?_, ?_, ?_, ?_, ?_, ?_⟩
  · rw [cC 28 (by omega), oM 2 (by omega)]; exact h2
  · rw [oC 13 (by omega), oM 53 (by omega)]; exact h3
  · rw [cC 34 (by omega), oM 52 (by omega)]; exact h4
  · rw [cC 24 (by omega), oM 39 (by omega), oM 40 (by omega)]; exact h5
  · rw [cC 3 (by omega), cC 4 (by omega), cM 1 (by omega), cM 2 (by omega)]; exact h6
  · rw [cC 5 (by omega), cC 6 (by omega), cC 7 (by omega), cC 8 (by omega), cC 9 (by omega), cM 3 (by omega), cM 4 (by omega)]; exact h7
  · rw [cC 5 (by omega), oM 11 (by omega)]; exact h8
  · rw [cC 12 (by omega)]; exact h9
  · rw [cC 19 (by omega)]; exact h10
  · rw [cC 13 (by omega), cC 14 (by omega), cC 15 (by omega), cC 16 (by omega), cM 5 (by omega), cM 6 (by omega), cM 7 (by omega), cM 8 (by omega)]; exact h11
  · rw [cC 12 (by omega), cM 9 (by omega)]; exact h12
  · rw [cC 10 (by omega), oM 13 (by omega)]; exact h13
  · rw [cC 10 (by omega), cM 10 (by omega)]; exact h14
  · rw [cC 10 (by omega), cM 11 (by omega)]; exact h15
  · rw [cC 10 (by omega), cM 12 (by omega)]; exact h16
  · rw [cC 10 (by omega), oM 45 (by omega)]; exact h17
  · rw [cC 11 (by omega), cM 27 (by omega)]; exact h18
  · rw [cC 24 (by omega), oM 18 (by omega), cC 25 (by omega), cM 13 (by omega)]; exact h19
  · rw [cM 14 (by omega)]; exact h20
  · exact r_txt_fr h21 (fun a ha => cC a (by omega)) (by rw [cC 24 (by omega)]) (by rw [cC 28 (by omega)]) (cC 30 (by omega)) (cC 31 (by omega)) (cC 32 (by omega)) (fun a q1 q2 => cM a (by omega))
  · rw [nC, cC 34 (by omega), oM 48 (by omega), cC 35 (by omega), cC 36 (by omega), cC 37 (by omega), cM 30 (by omega), cM 32 (by omega), cM 31 (by omega)]
    obtain ⟨n, q1, q2, q3, q4⟩ := h22
    refine ⟨n, q1, q2, q3, fun i hi => ?_⟩
    obtain ⟨p1, p2, hh, N', p3, p4, p5, p6, p7⟩ := q4 i hi
    have : N' = N := by rw [en] at p5; exact ((nI_eq (by omega) (by omega)).mp p5).symm
    exact ⟨p1, p2, hh, N + 1, by omega, hN, rfl, p6, p7⟩
  · rw [cC 39 (by omega), cM 33 (by omega)]; exact h23
  · rw [oC 11 (by omega), oM 56 (by omega), cC 1 (by omega), cM 35 (by omega)]; exact h24
  · rw [cC 41 (by omega), oM 58 (by omega), cC 42 (by omega), cC 43 (by omega), cM 36 (by omega), cM 37 (by omega), cM 38 (by omega), cM 39 (by omega)]; exact h25
  · rw [cM 29 (by omega)]; exact h26
theorem hour1 {σ τ : St} {N : Nat} (h : Rel σ τ) (en : σ 0 12 = nI N) (hN : N < 720) : ∃ (r2 r10 : Int32) (σ5 σ7 σ9 σ13 τ3 τ6 : St), fX7_rainAt σ (nI N) = some r2 ∧ fX2_setTime σ r2 (nI N - nI N / 24 * 24) = some σ5 ∧ fX8_rainAndDry 5 σ5 r2 = some σ7 ∧ fX8_sinkWater 5 σ7 = some σ9 ∧ fX7_swellAt σ9 (nI N) = some r10 ∧ σ9 0 = σ 0 ∧ fX5_passHour 10 σ9 r10 (nI N) = some σ13 ∧ σ13 0 12 = nI N ∧ fX11_heapHour τ = some τ3 ∧ ((τ3 0 13 = 0 ∧ τ6 = τ3) ∨ (¬ τ3 0 13 = 0 ∧ fX11_shipHour τ3 0 (τ3 0 1) = some τ6)) ∧ τ6 0 1 = nI N ∧ Rel σ13 τ6 := by
  obtain ⟨N', _, en1, en2⟩ := g_now h
  have : N' = N := ((nI_eq (by omega) (by omega)).mp (en.symm.trans en1)).symm
  subst this
  obtain ⟨so, hso, es1, es2⟩ := g_sort h
  obtain ⟨⟨rn, hrn, er1, er2⟩, sl, hsl, esl1, esl2⟩ := g_sky h (N' / 24) (by omega)
  obtain ⟨y, P, hl, hm⟩ := g_laws h
  have y44 := fW_ge hl.1
  have rm : nI N' - nI N' / 24 * 24 = nI (N' % 24) := pk_rem (d := 24) (by omega) (by omega) (by omega)
  obtain ⟨σ5, t1, t2, t3⟩ := setTime_C (σ := σ) (sort := so) (rain := rn) (clock := N' % 24) es1
  obtain ⟨hp, O, W, hr, hc⟩ := g_pile h
  have l5 : lawsC σ5 y P := lawsC_fr hl (t2 28 (by omega)) (fun a ha hb => t2 a (by omega))
  obtain ⟨σ7, σ9, τ3, W2, a1, a2, a3, a4, a5, a6, a7, a8, a9⟩ := heap_hour (σ := σ5) (τ := τ) (y := y) (P := P) (N := N') (so := so) (rn := rn) (O := O) (W := W) hN hrn hr ⟨by rw [t2 5 (by omega)]; exact hp, l5, t3, fun k z hk hz => by rw [t2 6 (by omega), t2 7 (by omega), t2 8 (by omega)]; exact ⟨(hc k z hk hz).1, (hc k z hk hz).2.1, (hc k z hk hz).2.2.1⟩⟩ ⟨en2, es2, er2, hm, fun k z hk hz => (hc k z hk hz).2.2.2.2⟩ (by rw [t2 5 (by omega)]; exact g_out h)
  have same9 : ∀ a, ¬ a = 5 → ¬ a = 7 → ¬ a = 29 → ¬ a = y + 6 → σ9 a = σ a := fun a h1 h2 h3 h4 => by rw [a4.1 a h1 h2 h3 h4, t2 a h3]
  have rel9 : Rel σ9 τ3 := by
    refine rel_body h (fun a ha => same9 a ?_ ?_ ?_ ?_) (fun a ha => a6.1 a ?_ ?_ ?_ ?_ ?_) a6.2 ?_ a9 ?_ ?_ ?_ ?_ ?_ ?_ ?_ ?_ ?_
    · rintro rfl; exact absurd ha (by decide)
    · rintro rfl; exact absurd ha (by decide)
    · rintro rfl; exact absurd ha (by decide)
    · rintro rfl; rcases hl.1 with rfl | rfl | rfl <;> exact absurd ha (by decide)
    · rintro rfl; exact absurd ha (by decide)
    · rintro rfl; exact absurd ha (by decide)
    · rintro rfl; exact absurd ha (by decide)
    · rintro rfl; exact absurd ha (by decide)
    · rintro rfl; exact absurd ha (by decide)
    · refine ⟨by rw [a4.2 0 (by omega), a4.2 1 (by omega), a4.2 2 (by omega), t2 5 (by omega)]; exact hp, O, W2, a7, fun k z hk hz => ?_⟩
      obtain ⟨q1, q2, q3, q4, q5, q6⟩ := hc k z hk hz
      refine ⟨by rw [same9 6 (by omega) (by omega) (by omega) (by omega)]; exact q1, (a8 k z hk hz).1, by rw [same9 8 (by omega) (by omega) (by omega) (by omega)]; exact q3, by rw [same9 9 (by omega) (by omega) (by omega) (by omega)]; exact q4, by rw [a6.1 3 (by omega) (by omega) (by omega) (by omega) (by omega)]; exact q5, (a8 k z hk hz).2⟩
    · rw [same9 12 (by omega) (by omega) (by omega) (by omega)]; exact g_stk h
    · rw [same9 19 (by omega) (by omega) (by omega) (by omega)]; exact g_stkT h
    · rw [same9 13 (by omega) (by omega) (by omega) (by omega), same9 14 (by omega) (by omega) (by omega) (by omega), same9 15 (by omega) (by omega) (by omega) (by omega), same9 16 (by omega) (by omega) (by omega) (by omega), a6.1 5 (by omega) (by omega) (by omega) (by omega) (by omega), a6.1 6 (by omega) (by omega) (by omega) (by omega) (by omega), a6.1 7 (by omega) (by omega) (by omega) (by omega) (by omega), a6.1 8 (by omega) (by omega) (by omega) (by omega) (by omega)]; exact g_holds h
    · rw [same9 12 (by omega) (by omega) (by omega) (by omega), a6.1 9 (by omega) (by omega) (by omega) (by omega) (by omega)]; exact g_well h
    · rw [same9 10 (by omega) (by omega) (by omega) (by omega), a6.2 13 (by omega)]; exact g_sea h
    · rw [same9 10 (by omega) (by omega) (by omega) (by omega), a6.1 10 (by omega) (by omega) (by omega) (by omega) (by omega)]; exact g_state h
    · rw [same9 10 (by omega) (by omega) (by omega) (by omega), a6.1 11 (by omega) (by omega) (by omega) (by omega) (by omega)]; exact g_lean h
    · rw [same9 10 (by omega) (by omega) (by omega) (by omega), a6.1 12 (by omega) (by omega) (by omega) (by omega) (by omega)]; exact g_gone h
    · rw [same9 10 (by omega) (by omega) (by omega) (by omega), a6.2 45 (by omega)]; exact g_limit h
  have n9 : σ9 0 = σ 0 := same9 0 (by omega) (by omega) (by omega) (by omega)
  have n3 : τ3 0 1 = nI N' := by rw [a6.2 1 (by omega)]; exact en2
  refine ⟨nI rn, nI sl, σ5, σ7, σ9, ?_⟩
  have f1 : fX7_rainAt σ (nI N') = some (nI rn) := rain_C hN er1
  have f2 : fX2_setTime σ (nI rn) (nI N' - nI N' / 24 * 24) = some σ5 := by rw [rm]; exact t1
  have f3 : fX7_swellAt σ9 (nI N') = some (nI sl) := swell_C hN (by rw [same9 4 (by omega) (by omega) (by omega) (by omega)]; exact esl1)
  obtain ⟨S, hS, s1, s2⟩ := g_sea rel9
  by_cases c : S = 0
  · subst c
    refine ⟨σ9, τ3, τ3, f1, f2, a1, a2, f3, n9, ?_, by rw [n9]; exact en, a3, Or.inl ⟨s2, rfl⟩, n3, rel9⟩
    unfold fX5_passHour
    rw [if_pos (show σ9 10 3 = 0 from s1)]
  · have sea : ¬ nI S = 0 := fun q => c ((nI_e0 (by omega)).mp q)
    have l9 : lawsC σ9 y P := lawsC_S (by omega) l5 a4
    obtain ⟨O', W', K', Q', hr', hh'⟩ := g_hW rel9
    obtain ⟨σ13, τ6, b1, b2, b3, b4, b5, b6⟩ := ship_hour (y := y) (w := 0) (b := 10) (so := so) (rn := rn) (sl := sl) (t := N') (P := P) (σ := σ9) (τ := τ3) (Or.inl ⟨rfl, rfl⟩) hN hsl ⟨g_stk rel9, ⟨O', W', K', Q', hr', hh'⟩, g_well rel9, g_state rel9, g_lean rel9, g_gone rel9⟩ l9 a5 (by rw [s1]; exact sea) (by obtain ⟨v, _, v1, v2⟩ := g_limit rel9; rw [v1, v2]) (g_arms rel9) (by rw [a6.2 2 (by omega)]; exact es2) (by rw [a6.1 1 (by omega) (by omega) (by omega) (by omega) (by omega)]; exact er2) (by rw [a6.1 2 (by omega) (by omega) (by omega) (by omega) (by omega)]; exact esl2) (lawsM_f hm a6)
    obtain ⟨z1, ⟨O2, W3, K2, Q2, z2, z3⟩, z4, z5, z6, z7⟩ := b3
    have o0 : σ13 0 = σ9 0 := b4.1 0 (by omega) (by omega) (by omega) (by omega) (by omega)
    have m0 : τ6 0 = τ3 0 := b5.1 0 (by omega) (by omega) (by omega) (by omega)
    refine ⟨σ13, τ3, τ6, f1, f2, a1, a2, f3, n9, b1, by rw [o0, n9]; exact en, a3, Or.inr ⟨by rw [s2]; exact sea, by rw [n3]; exact b2⟩, by rw [m0]; exact n3, ?_⟩
    refine rel_body rel9 (fun a ha => b4.1 a ?_ ?_ ?_ ?_ ?_) (fun a ha => b5.1 a ?_ ?_ ?_ ?_) (fun j _ => by rw [m0]) ?_ ?_ z1 ?_ ?_ z4 ?_ z5 z6 z7 ?_
    · rintro rfl; exact absurd ha (by decide)
    · rintro rfl; exact absurd ha (by decide)
    · rintro ⟨q1, q2⟩
      have : a = 13 ∨ a = 14 ∨ a = 15 ∨ a = 16 := by omega
      rcases this with rfl | rfl | rfl | rfl <;> exact absurd ha (by decide)
    · rintro rfl; exact absurd ha (by decide)
    · rintro rfl; rcases hl.1 with rfl | rfl | rfl <;> exact absurd ha (by decide)
    · rintro ⟨q1, q2⟩
      have : a = 5 ∨ a = 6 ∨ a = 7 ∨ a = 8 ∨ a = 9 ∨ a = 10 ∨ a = 11 ∨ a = 12 := by omega
      rcases this with rfl | rfl | rfl | rfl | rfl | rfl | rfl | rfl <;> exact absurd ha (by decide)
    · rintro rfl; exact absurd ha (by decide)
    · rintro rfl; exact absurd ha (by decide)
    · rintro rfl; exact absurd ha (by decide)
    · rw [b4.1 5 (by omega) (by omega) (by omega) (by omega) (by omega), b4.1 6 (by omega) (by omega) (by omega) (by omega) (by omega), b4.1 7 (by omega) (by omega) (by omega) (by omega) (by omega), b4.1 8 (by omega) (by omega) (by omega) (by omega) (by omega), b4.1 9 (by omega) (by omega) (by omega) (by omega) (by omega), b5.1 3 (by omega) (by omega) (by omega) (by omega), b5.1 4 (by omega) (by omega) (by omega) (by omega)]; exact g_pile rel9
    · rw [b4.1 5 (by omega) (by omega) (by omega) (by omega) (by omega), m0]; exact g_out rel9
    · rw [b4.1 19 (by omega) (by omega) (by omega) (by omega) (by omega)]; exact g_stkT rel9
    · refine ⟨O2, W3, K2, Q2, z2, fun j hj => ?_⟩
      have := z3 j hj
      rw [show 144 * 0 + j = j by omega] at this
      exact this
    · rw [b4.2.1 3 (by omega) (by omega) (by omega), m0]; exact g_sea rel9
    · rw [b4.2.1 2 (by omega) (by omega) (by omega), m0]; exact g_limit rel9
theorem h27_s (f : Nat) (σ : St) (a b : Int32) : fX10_hours_27 (f + 1) σ a b = fX10_hours_27B (fX10_hours_27 f) σ a b := rfl
theorem h32_s (f : Nat) (τ : St) (a b : Int32) : fX11_hours_32 (f + 1) τ a b = fX11_hours_32B (fX11_hours_32 f) τ a b := rfl
theorem hours_loop {n : Nat} (hn : n ≤ 48) : ∀ (d i f f' N : Nat) (σ τ : St), i + d = n → d < f → d < f' → σ 0 12 = nI N → N + d ≤ 719 → Rel σ τ → ∃ r σ' τ', fX10_hours_27 f σ (nI n) (nI i) = some (r, σ') ∧ fX11_hours_32 f' τ (nI n) (nI i) = some (r, τ') ∧ Rel σ' τ' := by
  intro d
  induction d with
  | zero =>
    intro i f f' N σ τ h1 h2 h3 en hN h
    obtain ⟨f, rfl⟩ : ∃ g, f = g + 1 := ⟨f - 1, by omega⟩
    obtain ⟨f', rfl⟩ : ∃ g, f' = g + 1 := ⟨f' - 1, by omega⟩
    have : i = n := by omega
    subst this
    rw [h27_s, h32_s]; unfold fX10_hours_27B fX11_hours_32B
    rw [if_pos (nI_le (Nat.le_refl _) (by omega)), if_pos (nI_le (Nat.le_refl _) (by omega))]
    obtain ⟨N', _, e1, e2⟩ := g_now h
    exact ⟨σ 0 12, σ, τ, rfl, by rw [e1, e2], h⟩
  | succ d ih =>
    intro i f f' N σ τ h1 h2 h3 en hN h
    obtain ⟨f, rfl⟩ : ∃ g, f = g + 1 := ⟨f - 1, by omega⟩
    obtain ⟨f', rfl⟩ : ∃ g, f' = g + 1 := ⟨f' - 1, by omega⟩
    have ni : ¬ nI n ≤ nI i := fun q => absurd ((nI_leI (by omega) (by omega)).mp q) (by omega)
    rw [h27_s, h32_s]; unfold fX10_hours_27B fX11_hours_32B
    obtain ⟨r2, r10, σ5, σ7, σ9, σ13, τ3, τ6, a1, a2, a3, a4, a5, a6, a7, a8, a9, a10, a11, a12⟩ := hour1 h en (by omega)
    rw [if_neg ni, if_neg ni, en, a1, p_cq, a2, p_cv, a3, p_cv, a4, p_cv, a6, en, a5, p_cq, a7, p_cv, p_nmS, a8, a9, p_cv, show nI i + 1 = nI (i + 1) from (nI_succ _).symm, show nI N + 1 = nI (N + 1) from (nI_succ _).symm]
    obtain ⟨r, σ', τ', b1, b2, b3⟩ := ih (i + 1) f f' (N + 1) _ _ (by omega) (by omega) (by omega) (by rw [sp_same, up_same]) (by omega) (rs_now (by omega) a8 a12)
    refine ⟨r, σ', τ', b1, ?_, b3⟩
    have e57 : fX11_hours_57 (fX11_hours_32 f') τ6 (nI n) (nI i) = some (r, τ') := by
      unfold fX11_hours_57
      rw [p_nmS, a11, show nI i + 1 = nI (i + 1) from (nI_succ _).symm, show nI N + 1 = nI (N + 1) from (nI_succ _).symm]
      exact b2
    rcases a10 with ⟨q1, q2⟩ | ⟨q1, q2⟩
    · rw [if_pos q1, ← q2]; exact e57
    · rw [if_neg q1, q2, p_cv]; exact e57
theorem opp_9 : op_9 Rel := by
  intro σ τ0 a0 h0
  have h := rel_told h0 0
  generalize hτ : st_put τ0 0 0 0 = τ at h
  unfold fX10_hours fX11_hours
  rw [p_nmS, hτ]
  by_cases c : ¬ (1 ≤ a0 ∧ a0 ≤ 48)
  · rw [ii_f c, if_pos rfl]
    refine ⟨-1, σ, τ, ?_, rfl, h⟩
    by_cases q : a0 < 1
    · rw [if_pos q]
    · rw [if_neg q, if_pos (show 48 < a0 by grind)]
  have c := Decidable.not_not.mp c
  rw [ii_t c, if_neg n10, if_neg (show ¬ a0 < 1 by grind), if_neg (show ¬ 48 < a0 by grind)]
  obtain ⟨n, hn, rfl⟩ := i_of (x := a0) (n := 49) (by omega) (by grind) (by show a0 < 49; grind)
  obtain ⟨N, hN, en1, en2⟩ := g_now h
  rw [en1, en2, nI_add]
  by_cases q : N + n ≤ 719
  · rw [if_pos (show nI (N + n) ≤ 719 from nI_le (b := 719) q (by omega)), if_pos (show nI (N + n) ≤ 719 from nI_le (b := 719) q (by omega))]
    exact hours_loop (n := n) (by omega) n 0 FU FU N σ τ (by omega) (by rw [FU_eq]; omega) (by rw [FU_eq]; omega) en1 q h
  · have nq : ¬ nI (N + n) ≤ 719 := fun w => q ((nI_leI (b := 719) (by omega) (by omega)).mp w)
    rw [if_neg nq, if_neg nq]
    exact ⟨_, _, _, rfl, rfl, h⟩
