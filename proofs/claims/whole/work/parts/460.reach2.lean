/-! how long she stays -/
def frT (y : Nat) (σ σ' : St) : Prop := ∀ a, ¬ (17 ≤ a ∧ a ≤ 23) → ¬ a = 29 → ¬ a = y + 6 → σ' a = σ a
theorem frT_t {y : Nat} {σ σ' σ'' : St} (h : frT y σ σ') (h' : frT y σ' σ'') : frT y σ σ'' := fun a h1 h2 h3 => by rw [h' a h1 h2 h3, h a h1 h2 h3]
theorem run_both {y so N H : Nat} {P : Pg} {σ0 τ0 : St} (hr : Rel σ0 τ0) (hso : σ0 28 1 = nI so ∧ τ0 0 2 = nI so) (hl : lawsC σ0 y P) (hm : lawsM τ0 P) (hN : τ0 0 1 = nI N) (hH : N + H ≤ 719) : ∀ (d i f f' : Nat) (σ τ : St), i + d = H → d < f → d < f' → frT y σ0 σ → frW 1 τ0 τ → shR 1 17 σ τ → ¬ σ 17 3 = 0 → σ 17 2 = τ0 0 45 → r_arms (σ 18) (τ0 27) → ∃ b σ' τ', fX10_staysTill_16 f σ (nI (N + H)) (nI (N + i)) = some (bI b, σ') ∧ fX11_lasts_129 f' τ (nI H) (nI i) = some (bI b, τ') ∧ frT y σ0 σ' ∧ frW 1 τ0 τ' ∧ r_stk (σ' 19) := by
  have y44 := fW_ge hl.1
  have fin : ∀ σ τ, frT y σ0 σ → frW 1 τ0 τ → shR 1 17 σ τ → ∃ b σ' τ', fX10_staysTill_77 σ = some (bI b, σ') ∧ fX11_lasts_161 τ = some (bI b, τ') ∧ frT y σ0 σ' ∧ frW 1 τ0 τ' ∧ r_stk (σ' 19) := by
    intro σ τ h1 h2 h3
    obtain ⟨z1, z2, z4, z5, z6, z7, z8⟩ := h3
    unfold fX10_staysTill_77 fX11_lasts_161
    rw [p_rdL 1 1 rfl (by omega) (by omega), ← z7]
    by_cases c : σ 17 6 = -1
    · rw [if_pos c, if_pos c]; exact ⟨true, σ, τ, rfl, rfl, h1, h2, z1⟩
    · rw [if_neg c, if_neg c]; exact ⟨false, σ, τ, rfl, rfl, h1, h2, z1⟩
  intro d
  induction d with
  | zero =>
    intro i f f' σ τ h1 h2 h3 hf hg hs h5 h6 h7
    obtain ⟨f, rfl⟩ : ∃ g, f = g + 1 := ⟨f - 1, by omega⟩
    obtain ⟨f', rfl⟩ : ∃ g, f' = g + 1 := ⟨f' - 1, by omega⟩
    have : i = H := by omega
    subst this
    rw [st16_s, la129_s]; unfold fX10_staysTill_16B fX11_lasts_129B
    rw [if_pos (nI_le (Nat.le_refl _) (by omega)), if_pos (nI_le (Nat.le_refl _) (by omega))]
    exact fin σ τ hf hg hs
  | succ d ih =>
    intro i f f' σ τ h1 h2 h3 hf hg hs h5 h6 h7
    obtain ⟨f, rfl⟩ : ∃ g, f = g + 1 := ⟨f - 1, by omega⟩
    obtain ⟨f', rfl⟩ : ∃ g, f' = g + 1 := ⟨f' - 1, by omega⟩
    rw [st16_s, la129_s]; unfold fX10_staysTill_16B fX11_lasts_129B
    rw [if_neg (fun q => absurd ((nI_leI (by omega) (by omega)).mp q) (by omega)), if_neg (fun q => absurd ((nI_leI (by omega) (by omega)).mp q) (by omega)), p_rdL 1 1 rfl (by omega) (by omega), ← hs.2.2.2.2.2.1]
    by_cases c : ¬ σ 17 6 = -1
    · rw [if_neg c, if_neg c]; exact fin σ τ hf hg hs
    have c := Decidable.not_not.mp c
    have ht : N + i < 720 := by omega
    obtain ⟨⟨rn, hrn, er1, er2⟩, sl, hsl, esl1, esl2⟩ := g_sky hr ((N + i) / 24) (by omega)
    have rm : nI (N + i) - nI (N + i) / 24 * 24 = nI ((N + i) % 24) := pk_rem (d := 24) (by omega) (by omega) (by omega)
    obtain ⟨σ5, t1, t2, t3⟩ := setTime_C (σ := σ) (sort := so) (rain := rn) (clock := (N + i) % 24) (by rw [hf 28 (by omega) (by omega) (by omega)]; exact hso.1)
    have l5 : lawsC σ5 y P := lawsC_fr hl (by rw [t2 28 (by omega), hf 28 (by omega) (by omega) (by omega)]) (fun a q1 q2 => by rw [t2 a (by omega), hf a (by omega) (by omega) (by omega)])
    have s5 : shR 1 17 σ5 τ := by
      unfold shR r_hW at *
      rw [t2 (17 + 2) (by omega), t2 (17 + 2 + 1) (by omega), t2 (17 + 2 + 2) (by omega), t2 (17 + 2 + 3) (by omega), t2 (17 + 2 + 4) (by omega), t2 17 (by omega)]
      exact hs
    obtain ⟨σ6, τ6, b1, b2, b3, b4, b5, b6⟩ := ship_hour (y := y) (w := 1) (b := 17) (so := so) (rn := rn) (sl := sl) (t := N + i) (P := P) (σ := σ5) (τ := τ) (Or.inr ⟨rfl, rfl⟩) ht hsl s5 l5 t3 (by rw [t2 17 (by omega)]; exact h5) (by rw [t2 17 (by omega), hg.1 0 (by omega) (by omega) (by omega) (by omega)]; exact h6) (by rw [t2 (17 + 1) (by omega), hg.1 27 (by omega) (by omega) (by omega) (by omega)]; exact h7) (by rw [hg.1 0 (by omega) (by omega) (by omega) (by omega)]; exact hso.2) (by rw [hg.1 1 (by omega) (by omega) (by omega) (by omega)]; exact er2) (by rw [hg.1 2 (by omega) (by omega) (by omega) (by omega)]; exact esl2) (lawsM_W hm hg)
    rw [if_pos c, if_pos c, rain_C ht (by rw [hf 3 (by omega) (by omega) (by omega)]; exact er1), p_cq, rm, t1, p_cv, swell_C (r := sl) ht (by rw [t2 4 (by omega), hf 4 (by omega) (by omega) (by omega)]; exact esl1), p_cq, b1, p_cv, hg.1 0 (by omega) (by omega) (by omega) (by omega), hN, nI_add, show (1 : Int32) = nI 1 from rfl, b2, p_cv, nI_add, nI_add]
    obtain ⟨g1, g2, g3⟩ := b4
    have := ih (i + 1) f f' σ6 τ6 (by omega) (by omega) (by omega) (fun a q1 q2 q3 => by rw [g1 a (by omega) (by omega) (by omega) q2 q3, t2 a q2, hf a q1 q2 q3]) (frW_t hg b5) b3 (by rw [g2 3 (by omega) (by omega) (by omega), t2 17 (by omega)]; exact h5) (by rw [g2 2 (by omega) (by omega) (by omega), t2 17 (by omega)]; exact h6) (by rw [g1 18 (by omega) (by omega) (by omega) (by omega) (by omega), t2 18 (by omega)]; exact h7)
    rw [show N + i + 1 = N + (i + 1) from rfl]
    exact this
theorem rel_trial {y : Nat} {σ σ' τ τ' : St} (hy : fW y) (h : Rel σ τ) (hf : frT y σ σ') (hs : r_stk (σ' 19)) (hg : frW 1 τ τ') : Rel σ' τ' := by
  have y44 := fW_ge hy
  refine rel_body h (fun a ha => hf a ?_ ?_ ?_) (fun a ha => hg.1 a ?_ ?_ ?_ ?_) (fun j _ => by rw [hg.1 0 (by omega) (by omega) (by omega) (by omega)]) ?_ ?_ ?_ hs ?_ ?_ ?_ ?_ ?_ ?_ ?_
  · rintro ⟨q1, q2⟩
    have : a = 17 ∨ a = 18 ∨ a = 19 ∨ a = 20 ∨ a = 21 ∨ a = 22 ∨ a = 23 := by omega
    rcases this with rfl | rfl | rfl | rfl | rfl | rfl | rfl <;> exact absurd ha (by decide)
  · rintro rfl; exact absurd ha (by decide)
  · rintro rfl; rcases hy with rfl | rfl | rfl <;> exact absurd ha (by decide)
  · rintro ⟨q1, q2⟩
    have : a = 5 ∨ a = 6 ∨ a = 7 ∨ a = 8 ∨ a = 9 ∨ a = 10 ∨ a = 11 ∨ a = 12 := by omega
    rcases this with rfl | rfl | rfl | rfl | rfl | rfl | rfl | rfl <;> exact absurd ha (by decide)
  · rintro rfl; exact absurd ha (by decide)
  · rintro rfl; exact absurd ha (by decide)
  · rintro rfl; exact absurd ha (by decide)
  · rw [hf 5 (by omega) (by omega) (by omega), hf 6 (by omega) (by omega) (by omega), hf 7 (by omega) (by omega) (by omega), hf 8 (by omega) (by omega) (by omega), hf 9 (by omega) (by omega) (by omega), hg.1 3 (by omega) (by omega) (by omega) (by omega), hg.1 4 (by omega) (by omega) (by omega) (by omega)]; exact g_pile h
  · rw [hf 5 (by omega) (by omega) (by omega), hg.1 0 (by omega) (by omega) (by omega) (by omega)]; exact g_out h
  · rw [hf 12 (by omega) (by omega) (by omega)]; exact g_stk h
  · obtain ⟨O, W, K, Q, hr, hc⟩ := g_holds h
    refine ⟨O, W, K, Q, hr, fun j hj => ?_⟩
    rw [hf 13 (by omega) (by omega) (by omega), hf 14 (by omega) (by omega) (by omega), hf 15 (by omega) (by omega) (by omega), hf 16 (by omega) (by omega) (by omega), hg.2.1 5 j (by omega) (by omega) (by omega), hg.2.1 6 j (by omega) (by omega) (by omega), hg.2.1 7 j (by omega) (by omega) (by omega), hg.2.1 8 j (by omega) (by omega) (by omega)]
    exact hc j hj
  · rw [hf 12 (by omega) (by omega) (by omega), hg.2.2 9 0 (by omega) (by omega) (by omega)]; exact g_well h
  · rw [hf 10 (by omega) (by omega) (by omega), hg.1 0 (by omega) (by omega) (by omega) (by omega)]; exact g_sea h
  · rw [hf 10 (by omega) (by omega) (by omega), hg.2.2 10 0 (by omega) (by omega) (by omega)]; exact g_state h
  · rw [hf 10 (by omega) (by omega) (by omega), hg.2.2 11 0 (by omega) (by omega) (by omega)]; exact g_lean h
  · rw [hf 10 (by omega) (by omega) (by omega), hg.2.2 12 0 (by omega) (by omega) (by omega)]; exact g_gone h
  · rw [hf 10 (by omega) (by omega) (by omega), hg.1 0 (by omega) (by omega) (by omega) (by omega)]; exact g_limit h
theorem lasts_both {σ τ : St} {N H : Nat} (h : Rel σ τ) (en : σ 0 12 = nI N) (hH : N + H ≤ 719) (sea : ¬ σ 10 3 = 0) : ∃ b σ' τ', fX10_staysTill σ (nI (N + H)) = some (bI b, σ') ∧ fX11_lasts τ (nI H) = some (bI b, τ') ∧ Rel σ' τ' ∧ Rel σ τ' ∧ Rel σ' τ := by
  obtain ⟨N', _, en1, en2⟩ := g_now h
  have : N' = N := ((nI_eq (by omega) (by omega)).mp (en.symm.trans en1)).symm
  subst this
  obtain ⟨S, hS, s1, s2⟩ := g_sea h
  have hz : σ 10 3 = 0 ∨ σ 10 3 = 1 := by
    rcases (show S = 0 ∨ S = 1 by omega) with rfl | rfl
    · exact Or.inl s1
    · exact Or.inr s1
  obtain ⟨so, _, es1, es2⟩ := g_sort h
  obtain ⟨y, P, hl, hm⟩ := g_laws h
  have y44 := fW_ge hl.1
  obtain ⟨σ2, a1, a2, a3, a4, a5, a6, a7, a8, a9, a10, a11, a12, a13⟩ := copy_C hz
  obtain ⟨O, W, K, Q, hr, hc⟩ := g_holds h
  obtain ⟨τ2, b1, b2, b3, b4, b5, b6, b7⟩ := copy_M (τ0 := τ) (x := nI H) (fun j hj => by
    rw [(hc j hj).2.2.2.2.2.2.2]
    have := (hr.1 j hj).2.2.2.1
    rcases (show Q j = 0 ∨ Q j = 1 by omega) with e | e
    · rw [e]; exact Or.inl rfl
    · rw [e]; exact Or.inr rfl) 144 0 FU τ (by omega) (by rw [FU_eq]; omega) (frW_r _ _) (fun j hj => by omega)
  have f2 : frT y σ σ2 := fun a q1 _ _ => a2 a q1
  have stk2 : r_stk (σ2 19) := by
    obtain ⟨q1, q2, q3⟩ := g_stkT h
    exact ⟨by rw [a4]; exact q1, by rw [a5]; exact q2, by rw [a6]; exact q3⟩
  have sh2 : shR 1 17 σ2 τ2 := by
    refine ⟨stk2, ⟨O, W, K, Q, hr, fun j hj => ?_⟩, ?_, ?_, ?_, ?_⟩
    · obtain ⟨p1, p2, p3, p4, p5, p6, p7, p8⟩ := hc j hj
      obtain ⟨q1, q2, q3, q4⟩ := a3 j hj
      obtain ⟨r1, r2, r3, r4⟩ := b3 j hj
      exact ⟨q1.trans p1, q2.trans p2, q3.trans p3, q4.trans p4, r1.trans p5, r2.trans p6, r3.trans p7, r4.trans p8⟩
    · rw [show 17 + 2 = 19 from rfl, a7, b4]; exact g_well h
    · rw [a11, b5]; exact g_state h
    · rw [a12, b6]; exact g_lean h
    · rw [a13, b7]; exact g_gone h
  obtain ⟨v, c1, c2, c3, c4, c5, c6⟩ := run_both (y := y) (so := so) (N := N') (H := H) (P := P) (σ0 := σ) (τ0 := τ) h ⟨es1, es2⟩ hl hm en2 hH H 0 FU FU σ2 τ2 (by omega) (by rw [FU_eq]; omega) (by rw [FU_eq]; omega) f2 b2 sh2 (by rw [a10]; exact sea) (by rw [a9]; obtain ⟨v, _, v1, v2⟩ := g_limit h; rw [v1, v2]) (fun j hj => by rw [a8 j hj]; exact g_arms h j hj)
  refine ⟨v, c1, c2, ?_, ?_, rel_trial hl.1 h c5 c6.2 c6.1, rel_trial hl.1 h (fun _ _ _ _ => rfl) (g_stkT h) c6.1, rel_trial hl.1 h c5 c6.2 (frW_r _ _)⟩
  · unfold fX10_staysTill
    rw [a1, p_cv, a2 0 (by omega), en]
    exact c3
  · unfold fX11_lasts
    rw [show (0 : Int32) = nI 0 from rfl, b1]
    exact c4
