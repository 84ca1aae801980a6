/-! the tape is read -/
def frA (x : Nat) (σ σ' : St) : Prop := (∀ a, ¬ a = 24 → ¬ a = 26 → ¬ a = 27 → ¬ (x ≤ a ∧ a ≤ x + 5) → σ' a = σ a) ∧ σ' 24 7 = σ 24 7 ∧ σ' 24 1 = 0
def frB (τ τ' : St) : Prop := (∀ a, ¬ a = 0 → ¬ (16 ≤ a ∧ a ≤ 23) → τ' a = τ a) ∧ (∀ j, j ≤ 18 ∨ 39 ≤ j → τ' 0 j = τ 0 j) ∧ (∀ a j, 16 ≤ a → a ≤ 20 → j < 32 → τ' a j = τ a j) ∧ ∀ a j, a = 21 ∨ a = 22 → j < 1200 → τ' a j = τ a j
theorem tape_both {laws : Bool} {T : Nat → Nat} {len x : Nat} {σ τ : St} (hl : len ≤ 600) (hx : fW x) (c1 : σ 24 1 = nI len) (c7 : σ 24 7 = nI x) (cT : ∀ j, j < len → σ 25 j = nI (T j) ∧ T j < 256) (m18 : τ 0 18 = nI len) (mT : ∀ j, j < len → τ 13 j = nI (T j) ∧ T j < 256) (mW : r_wordsM (τ 14)) (m32 : τ 0 32 = bI laws) : (∃ σ' τ', fX4_readTape σ (bI laws) = some (0, σ') ∧ fX11_readText τ = some (-1, τ') ∧ fltR σ' τ' ∧ frA x σ σ' ∧ frB τ τ') ∨ (∃ σ' τ' n c' P', fX4_readTape σ (bI laws) = some (1, σ') ∧ fX11_readText τ = some (nI P'.length, τ') ∧ ctx laws T len n ∧ lnS laws T len n x σ' τ' c' P' ∧ frA x σ σ' ∧ frB τ τ') := by
  have x44 := fW_ge hx
  unfold fX4_readTape fX11_readText
  rw [p_zb (show bI laws = 0 ∨ bI laws = 1 by cases laws <;> decide), p_nmS, p_nmS, p_nmS, p_nmS, p_nmS, p_nmS]
  have g7 : st_put (st_put (st_put σ 24 6 (bI laws)) 24 8 0) 24 9 (-1) 24 7 = nI x := by
    rw [sp_same, up_ne (by omega), sp_same, up_ne (by omega), sp_same, up_ne (by omega)]; exact c7
  rw [g7, p_gw hx]
  unfold fX9_clear
  rw [p_nmS, p_nmS, p_cv]
  generalize hA : st_put (st_put (st_put (st_put (st_put σ 24 6 (bI laws)) 24 8 0) 24 9 (-1)) x 0 0) x 1 0 = A
  have A24 : ∀ j, ¬ j = 6 → ¬ j = 8 → ¬ j = 9 → A 24 j = σ 24 j := fun j h1 h2 h3 => by rw [← hA, sp_ne (by omega), sp_ne (by omega), sp_same, up_ne h3, sp_same, up_ne h2, sp_same, up_ne h1]
  have Ao : ∀ a, ¬ a = 24 → ¬ a = x → A a = σ a := fun a h1 h2 => by rw [← hA, sp_ne h2, sp_ne h2, sp_ne h1, sp_ne h1, sp_ne h1]
  have A6 : A 24 6 = bI laws := by rw [← hA, sp_ne (by omega), sp_ne (by omega), sp_same, up_ne (by omega), sp_same, up_ne (by omega), sp_same, up_same]
  have A8 : A 24 8 = 0 := by rw [← hA, sp_ne (by omega), sp_ne (by omega), sp_same, up_ne (by omega), sp_same, up_same]
  have A9 : A 24 9 = -1 := by rw [← hA, sp_ne (by omega), sp_ne (by omega), sp_same, up_same]
  have Ax0 : A x 0 = 0 := by rw [← hA, sp_same, up_ne (by omega), sp_same, up_same]
  have Ax1 : A x 1 = 0 := by rw [← hA, sp_same, up_same]
  obtain ⟨n, σ9, s1, s2, s3, s4, s5, s6⟩ := scan_C (σ0 := A) (laws := laws) (T := T) (len := len) hl (by rw [A24 1 (by omega) (by omega) (by omega)]; exact c1) A6 (by rw [Ao 25 (by omega) (by omega)]; exact cT) len 0 0 FU A (by omega) (by rw [FU_eq]; omega) (Nat.le_refl _) rfl (fun _ _ _ => rfl) (fun j hj => by omega)
  have hctx : ctx laws T len n := ⟨hl, s3, s5, s6, kd_lt laws (fun j hj => (cT j hj).2)⟩
  rw [show fX4_scan A = some σ9 from s1, p_cv, p_nmS, p_nmS]
  rw [p_rdL 0 0 rfl (by omega) (by omega), sp_ne (a := 26) (by omega), sp_ne (a := 26) (by omega), (s4 0 (by omega)).1, p_nmS]
  generalize hB : st_put (st_put (st_put σ9 24 1 0) 24 4 0) 24 5 (nI (tokN laws T len 0).1) = B
  have B24 : ∀ j, ¬ j = 1 → ¬ j = 4 → ¬ j = 5 → B 24 j = A 24 j := fun j h1 h2 h3 => by rw [← hB, sp_same, up_ne h3, sp_same, up_ne h2, sp_same, up_ne h1, s2 24 (by omega) (by omega)]
  have Bo : ∀ a, ¬ a = 24 → B a = σ9 a := fun a h1 => by rw [← hB, sp_ne h1, sp_ne h1, sp_ne h1]
  have clB : cls laws T len n x B 0 [] := by
    refine ⟨hx, ?_, ?_, ?_, by omega, ?_, ?_, ?_, fun i q h => by simp at h, ?_, ?_⟩
    · rw [B24 7 (by omega) (by omega) (by omega), A24 7 (by omega) (by omega) (by omega)]; exact c7
    · rw [B24 6 (by omega) (by omega) (by omega)]; exact A6
    · rw [Bo 26 (by omega), Bo 27 (by omega)]; exact s4
    · rw [← hB, sp_same, up_ne (by omega), sp_same, up_same]; rfl
    · rw [← hB, sp_same, up_same]; rfl
    · rw [Bo x (by omega), s2 x (by omega) (by omega)]; exact Ax1
    · rw [B24 8 (by omega) (by omega) (by omega)]; exact A8
    · rw [B24 9 (by omega) (by omega) (by omega)]; exact A9
  have wB : wdC x B [] := ⟨by rw [Bo x (by omega), s2 x (by omega) (by omega)]; exact Ax0, fun l q h => by simp at h⟩
  have B1 : B 24 1 = 0 := by rw [← hB, sp_same, up_ne (by omega), sp_same, up_ne (by omega), sp_same, up_same]
  have fAB : ∀ σ', frL x B σ' → frA x σ σ' := by
    intro σ' h
    refine ⟨fun a h1 h2 h3 h4 => ?_, ?_, ?_⟩
    · rw [h.1 a h1 h4, Bo a h1, s2 a h2 h3, Ao a h1 (by omega)]
    · rw [h.2 7 (by omega) (by omega) (by omega) (by omega), B24 7 (by omega) (by omega) (by omega), A24 7 (by omega) (by omega) (by omega)]
    · rw [h.2 1 (by omega) (by omega) (by omega) (by omega)]; exact B1
  -- the model
  generalize hC : st_put (st_put (st_put τ 0 19 0) 0 33 0) 0 34 0 = C
  have Co : ∀ a, ¬ a = 0 → C a = τ a := fun a h1 => by rw [← hC, sp_ne h1, sp_ne h1, sp_ne h1]
  have C0 : ∀ j, ¬ j = 19 → ¬ j = 33 → ¬ j = 34 → C 0 j = τ 0 j := fun j h1 h2 h3 => by rw [← hC, sp_same, up_ne h3, sp_same, up_ne h2, sp_same, up_ne h1]
  have rC : rdOK C T len := ⟨hl, by rw [C0 18 (by omega) (by omega) (by omega)]; exact m18, by rw [Co 13 (by omega)]; exact mT, by rw [Co 14 (by omega)]; exact mW⟩
  obtain ⟨τ5, d1, d2, d3, d4, d5⟩ := reads_M laws rC len 0 FU C (by omega) (by rw [FU_eq]; omega) (frR_r _) (by rw [← hC, sp_same, up_ne (by omega), sp_same, up_ne (by omega), sp_same, up_same]; rfl)
  rw [show fX11_reads C = some τ5 from d1, p_cv]
  have mdC : mdl laws T len τ5 0 [] := by
    refine ⟨rdOK_f rC d2, by rw [d2.2 32 (by omega), C0 32 (by omega) (by omega) (by omega)]; exact m32, d3, d4, d5, ?_, fun i q h => by simp at h⟩
    rw [d2.2 33 (by omega), ← hC, sp_same, up_ne (by omega), sp_same, up_same]; rfl
  have h34 : τ5 0 34 = 0 := by rw [d2.2 34 (by omega), ← hC, sp_same, up_same]
  have fBC : ∀ τ', frT2 τ5 τ' → frB τ τ' := by
    intro τ' h
    refine ⟨fun a h1 h2 => by rw [h.1 a h1 h2, d2.1 a h1, Co a h1], fun j hj => ?_, fun a j h1 h2 h3 => by rw [h.2.2.1 a j h1 h2 h3, d2.1 a (by omega), Co a (by omega)], fun a j h1 h2 => by rw [h.2.2.2 a j h1 h2, d2.1 a (by omega), Co a (by omega)]⟩
    rw [h.2.1 j (by omega) (by omega) (by omega) (by omega) (by omega) (by omega), d2.2 j (by omega), C0 j (by omega) (by omega) (by omega)]
  have go := text_both (x := x) (σ0 := B) (τ0 := τ5) hctx n 0 FU FU 0 B τ5 [] (by omega) (by rw [FU_eq]; omega) (by rw [FU_eq]; omega) (Nat.le_refl _) ⟨clB, mdC, h34, wB, fun l q h => by simp at h, Nat.le_refl _, Nat.le_refl _, by decide, fun q h => by simp at h⟩ (frL_r _ _) (frT2_r _)
  rcases go with ⟨σ', τ', e1, e2, e3, e4, e5⟩ | ⟨σ', τ', c', P', e1, e2, e3, e4, e5⟩
  · exact Or.inl ⟨σ', τ', e1, e2, e3, fAB σ' e4, fBC τ' e5⟩
  · exact Or.inr ⟨σ', τ', n, c', P', e1, e2, hctx, e3, fAB σ' e4, fBC τ' e5⟩
