/-! reach -/
theorem row_same {σ : St} {k : Nat} {f : Nat → Int32} : st_row σ k f k = f := by simp [st_row]
theorem row_ne {σ : St} {k a : Nat} {f : Nat → Int32} (h : ¬ a = k) : st_row σ k f a = σ a := by simp [st_row, h]
theorem p_ac {α : Type} {n0 n1 k : Nat} {σ : St} {P0 P1 : Nat} (h0 : k ≤ n0) (h1 : k ≤ n1) (hk : k < 2147483648) (K : St → Option α) : acK n0 n1 σ P0 P1 0 0 (nI k) K = K (st_row σ P1 (va_cpy (σ P0) (σ P1) 0 0 k)) := by
  unfold acK
  rw [show (0 : Int32).toNatClampNeg = 0 from rfl, nI_clamp hk]
  have : ¬ nI k < 0 := nI_lt0 hk
  rw [if_neg (by intro h; rcases h with h | h | h | h | h; exact absurd h (by decide); exact absurd h (by decide); exact this h; omega; omega)]
theorem cpy0 {f g : Nat → Int32} {k j : Nat} (h : j < k) : va_cpy f g 0 0 k j = f j := by
  rw [pk_cpy_in (by omega) (by omega)]; congr 1; omega
theorem ac_ex {n k : Nat} {P0 P1 : Nat} (σ : St) (h0 : k ≤ n) (hk : k < 2147483648) : ∃ σ' : St, (∀ (α : Type) (K : St → Option α), acK n n σ P0 P1 0 0 (nI k) K = K σ') ∧ (∀ a, ¬ a = P1 → σ' a = σ a) ∧ ∀ j, j < k → σ' P1 j = σ P0 j :=
  ⟨st_row σ P1 (va_cpy (σ P0) (σ P1) 0 0 k), fun _ K => p_ac h0 h0 hk K, fun _ ha => row_ne ha, fun j hj => by rw [row_same]; exact cpy0 hj⟩
/-- the trial ship is a copy -/
theorem copy_C {σ : St} (hz : σ 10 3 = 0 ∨ σ 10 3 = 1) : ∃ σ', fX5_copyFrom σ = some σ' ∧ (∀ a, ¬ (17 ≤ a ∧ a ≤ 23) → σ' a = σ a) ∧ (∀ j, j < 144 → σ' 20 j = σ 13 j ∧ σ' 21 j = σ 14 j ∧ σ' 22 j = σ 15 j ∧ σ' 23 j = σ 16 j) ∧ σ' 19 0 = σ 19 0 ∧ σ' 19 1 = σ 19 1 ∧ σ' 19 2 = σ 19 2 ∧ σ' 19 7 = σ 12 7 ∧ (∀ j, j < 7 → σ' 18 j = σ 11 j) ∧ σ' 17 2 = σ 10 2 ∧ σ' 17 3 = σ 10 3 ∧ σ' 17 4 = σ 10 4 ∧ σ' 17 5 = σ 10 5 ∧ σ' 17 6 = σ 10 6 := by
  unfold fX5_copyFrom fX8_copyFrom
  rw [p_nm, show (if nI (stN (10 + 2)) < nI (stN (17 + 2)) then nI (stN (10 + 2)) else nI (stN (17 + 2))) = nI 144 from by decide, show stN (10 + 2) = 144 from rfl, show stN (17 + 2) = 144 from rfl]
  obtain ⟨s1, a1, a2, a3⟩ := ac_ex (n := 144) (k := 144) (P0 := 10 + 2 + 1) (P1 := 17 + 2 + 1) σ (Nat.le_refl _) (by omega)
  obtain ⟨s2, b1, b2, b3⟩ := ac_ex (n := 144) (k := 144) (P0 := 10 + 2 + 2) (P1 := 17 + 2 + 2) s1 (Nat.le_refl _) (by omega)
  obtain ⟨s3, c1, c2, c3⟩ := ac_ex (n := 144) (k := 144) (P0 := 10 + 2 + 3) (P1 := 17 + 2 + 3) s2 (Nat.le_refl _) (by omega)
  obtain ⟨s4, d1, d2, d3⟩ := ac_ex (n := 144) (k := 144) (P0 := 10 + 2 + 4) (P1 := 17 + 2 + 4) s3 (Nat.le_refl _) (by omega)
  obtain ⟨s5, e1, e2, e3⟩ := ac_ex (n := 7) (k := 7) (P0 := 10 + 1) (P1 := 17 + 1) (st_put s4 (17 + 2) 7 (s4 (10 + 2) 7)) (Nat.le_refl _) (by omega)
  rw [a1, b1, c1, d1, p_nmS, p_cv, show (7 : Int32) = nI 7 from rfl, e1, p_nmS]
  have k4 : ∀ a, ¬ (20 ≤ a ∧ a ≤ 23) → s4 a = σ a := fun a ha => by rw [d2 a (by omega), c2 a (by omega), b2 a (by omega), a2 a (by omega)]
  have k5 : ∀ a, ¬ (18 ≤ a ∧ a ≤ 23) → s5 a = σ a := fun a ha => by rw [e2 a (by omega), sp_ne (by omega), k4 a (by omega)]
  have w1 : ∀ v, st_put s5 17 2 v 10 = σ 10 := fun v => by rw [sp_ne (by omega), k5 10 (by omega)]
  rw [k5 10 (by omega), w1, p_zb hz, p_nmS, p_nmS, p_nmS, p_nmS]
  refine ⟨_, rfl, ?_, ?_, ?_, ?_, ?_, ?_, ?_, ?_, ?_, ?_, ?_, ?_⟩
  · intro a ha
    rw [sp_ne (by omega), sp_ne (by omega), sp_ne (by omega), sp_ne (by omega), sp_ne (by omega), k5 a (by omega)]
  · intro j hj
    rw [sp_ne (a := 20) (by omega), sp_ne (a := 20) (by omega), sp_ne (a := 20) (by omega), sp_ne (a := 20) (by omega), sp_ne (a := 20) (by omega), sp_ne (a := 21) (by omega), sp_ne (a := 21) (by omega), sp_ne (a := 21) (by omega), sp_ne (a := 21) (by omega), sp_ne (a := 21) (by omega), sp_ne (a := 22) (by omega), sp_ne (a := 22) (by omega), sp_ne (a := 22) (by omega), sp_ne (a := 22) (by omega), sp_ne (a := 22) (by omega), sp_ne (a := 23) (by omega), sp_ne (a := 23) (by omega), sp_ne (a := 23) (by omega), sp_ne (a := 23) (by omega), sp_ne (a := 23) (by omega)]
    rw [e2 20 (by omega), e2 21 (by omega), e2 22 (by omega), e2 23 (by omega), sp_ne (a := 20) (by omega), sp_ne (a := 21) (by omega), sp_ne (a := 22) (by omega), sp_ne (a := 23) (by omega)]
    refine ⟨?_, ?_, ?_, ?_⟩
    · rw [d2 20 (by omega), c2 20 (by omega), b2 20 (by omega)]; exact a3 j hj
    · rw [d2 21 (by omega), c2 21 (by omega)]; rw [show s2 21 j = s1 14 j from b3 j hj, a2 14 (by omega)]
    · rw [d2 22 (by omega), show s3 22 j = s2 15 j from c3 j hj, b2 15 (by omega), a2 15 (by omega)]
    · rw [show s4 23 j = s3 16 j from d3 j hj, c2 16 (by omega), b2 16 (by omega), a2 16 (by omega)]
  · rw [sp_ne (by omega), sp_ne (by omega), sp_ne (by omega), sp_ne (by omega), sp_ne (by omega), e2 19 (by omega), sp_same, up_ne (by omega), k4 _ (by omega)]
  · rw [sp_ne (by omega), sp_ne (by omega), sp_ne (by omega), sp_ne (by omega), sp_ne (by omega), e2 19 (by omega), sp_same, up_ne (by omega), k4 _ (by omega)]
  · rw [sp_ne (by omega), sp_ne (by omega), sp_ne (by omega), sp_ne (by omega), sp_ne (by omega), e2 19 (by omega), sp_same, up_ne (by omega), k4 _ (by omega)]
  · rw [sp_ne (by omega), sp_ne (by omega), sp_ne (by omega), sp_ne (by omega), sp_ne (by omega), e2 19 (by omega), sp_same, up_same, k4 _ (by omega)]
  · intro j hj
    rw [sp_ne (by omega), sp_ne (by omega), sp_ne (by omega), sp_ne (by omega), sp_ne (by omega), show s5 18 j = _ from e3 j hj, sp_ne (by omega), k4 _ (by omega)]
  · simp [st_put, st_row, upd, k5 10 (by omega)]
  · simp [st_put, st_row, upd, k5 10 (by omega)]
  · simp [st_put, st_row, upd, k5 10 (by omega)]
  · simp [st_put, st_row, upd, k5 10 (by omega)]
  · simp [st_put, st_row, upd, k5 10 (by omega)]
theorem la2_s (f : Nat) (τ : St) (a b : Int32) : fX11_lasts_2 (f + 1) τ a b = fX11_lasts_2B (fX11_lasts_2 f) τ a b := rfl
theorem la129_s (f : Nat) (τ : St) (a b : Int32) : fX11_lasts_129 (f + 1) τ a b = fX11_lasts_129B (fX11_lasts_129 f) τ a b := rfl
theorem st16_s (f : Nat) (σ : St) (a b : Int32) : fX10_staysTill_16 (f + 1) σ a b = fX10_staysTill_16B (fX10_staysTill_16 f) σ a b := rfl
/-- and so is the model's second world -/
theorem copy_M {τ0 : St} {x : Int32} (h8 : ∀ j, j < 144 → τ0 8 j = 0 ∨ τ0 8 j = 1) : ∀ (d m f : Nat) (τ : St), m + d = 144 → d < f → frW 1 τ0 τ → (∀ j, j < m → τ 5 (144 + j) = τ0 5 j ∧ τ 6 (144 + j) = τ0 6 j ∧ τ 7 (144 + j) = τ0 7 j ∧ τ 8 (144 + j) = τ0 8 j) → ∃ τ', fX11_lasts_2 f τ x (nI m) = fX11_lasts_129 FU τ' x 0 ∧ frW 1 τ0 τ' ∧ (∀ j, j < 144 → τ' 5 (144 + j) = τ0 5 j ∧ τ' 6 (144 + j) = τ0 6 j ∧ τ' 7 (144 + j) = τ0 7 j ∧ τ' 8 (144 + j) = τ0 8 j) ∧ τ' 9 1 = τ0 9 0 ∧ τ' 10 1 = τ0 10 0 ∧ τ' 11 1 = τ0 11 0 ∧ τ' 12 1 = τ0 12 0 := by
  intro d
  induction d with
  | zero =>
    intro m f τ h1 h2 hf hq
    obtain ⟨f, rfl⟩ : ∃ g, f = g + 1 := ⟨f - 1, by omega⟩
    have : m = 144 := by omega
    subst this
    rw [la2_s]; unfold fX11_lasts_2B
    rw [if_pos (show (144 : Int32) ≤ nI 144 by decide), p_rdL 0 0 rfl (by omega) (by omega), p_wrL 1 1 rfl (by omega) (by omega), p_rdL 0 0 rfl (by omega) (by omega), p_wrL 1 1 rfl (by omega) (by omega), p_rdL 0 0 rfl (by omega) (by omega), p_wrL 1 1 rfl (by omega) (by omega), p_rdL 0 0 rfl (by omega) (by omega), p_wrL 1 1 rfl (by omega) (by omega)]
    refine ⟨_, rfl, frW_t (frW_t (frW_t (frW_t hf (frW_o (by omega))) (frW_o (by omega))) (frW_o (by omega))) (frW_o (by omega)), ?_, ?_, ?_, ?_, ?_⟩
    · intro j hj
      rw [sp_ne (a := 5) (by omega), sp_ne (a := 5) (by omega), sp_ne (a := 5) (by omega), sp_ne (a := 5) (by omega), sp_ne (a := 6) (by omega), sp_ne (a := 6) (by omega), sp_ne (a := 6) (by omega), sp_ne (a := 6) (by omega), sp_ne (a := 7) (by omega), sp_ne (a := 7) (by omega), sp_ne (a := 7) (by omega), sp_ne (a := 7) (by omega), sp_ne (a := 8) (by omega), sp_ne (a := 8) (by omega), sp_ne (a := 8) (by omega), sp_ne (a := 8) (by omega)]
      exact hq j hj
    · rw [sp_ne (by omega), sp_ne (by omega), sp_ne (by omega), sp_same, up_same]; exact hf.2.2 9 0 (by omega) (by omega) (by omega)
    · rw [sp_ne (by omega), sp_ne (by omega), sp_same, up_same, sp_ne (by omega)]; exact hf.2.2 10 0 (by omega) (by omega) (by omega)
    · rw [sp_ne (by omega), sp_same, up_same, sp_ne (by omega), sp_ne (by omega)]; exact hf.2.2 11 0 (by omega) (by omega) (by omega)
    · rw [sp_same, up_same, sp_ne (by omega), sp_ne (by omega), sp_ne (by omega)]; exact hf.2.2 12 0 (by omega) (by omega) (by omega)
  | succ d ih =>
    intro m f τ h1 h2 hf hq
    obtain ⟨f, rfl⟩ : ∃ g, f = g + 1 := ⟨f - 1, by omega⟩
    have hm : m < 144 := by omega
    have k5 : τ 5 m = τ0 5 m := hf.2.1 5 m (by omega) (by omega) (by omega)
    have k6 : τ 6 m = τ0 6 m := hf.2.1 6 m (by omega) (by omega) (by omega)
    have k7 : τ 7 m = τ0 7 m := hf.2.1 7 m (by omega) (by omega) (by omega)
    have k8 : τ 8 m = τ0 8 m := hf.2.1 8 m (by omega) (by omega) (by omega)
    have nb : vp_nar .boolean (τ0 8 m) = τ0 8 m := by
      rcases h8 m hm with e | e
      · rw [e]; exact bo0
      · rw [e]; exact bo1
    rw [la2_s]; unfold fX11_lasts_2B
    rw [if_neg (show ¬ (144 : Int32) ≤ nI m from fun q => absurd ((nI_leI (a := 144) (by omega) (by omega)).mp q) (by omega)), show (144 : Int32) + nI m = nI (144 + m) from nI_add 144 m, show nI m + 1 = nI (m + 1) from (nI_succ _).symm]
    rw [p_rdN (by omega) (by omega), k5, p_wrN (by omega) (by omega), p_rdN (by omega) (by omega), sp_ne (a := 6) (by omega), k6, p_wrN (by omega) (by omega), p_rdN (by omega) (by omega), sp_ne (a := 7) (by omega), sp_ne (a := 7) (by omega), k7, p_wrN (by omega) (by omega), p_rdN (by omega) (by omega), sp_ne (a := 8) (by omega), sp_ne (a := 8) (by omega), sp_ne (a := 8) (by omega), k8, nb, p_wrN (by omega) (by omega)]
    refine ih (m + 1) f _ (by omega) (by omega) (frW_t (frW_t (frW_t (frW_t hf (frW_a (by omega) (by omega))) (frW_a (by omega) (by omega))) (frW_a (by omega) (by omega))) (frW_a (by omega) (by omega))) ?_
    intro j hj
    by_cases e : j = m
    · subst e
      refine ⟨?_, ?_, ?_, ?_⟩
      · rw [sp_ne (by omega), sp_ne (by omega), sp_ne (by omega), sp_same, up_same]
      · rw [sp_ne (by omega), sp_ne (by omega), sp_same, up_same]
      · rw [sp_ne (by omega), sp_same, up_same]
      · rw [sp_same, up_same]
    · obtain ⟨p1, p2, p3, p4⟩ := hq j (by omega)
      refine ⟨?_, ?_, ?_, ?_⟩
      · rw [sp_ne (by omega), sp_ne (by omega), sp_ne (by omega), sp_same, up_ne (by omega)]; exact p1
      · rw [sp_ne (by omega), sp_ne (by omega), sp_same, up_ne (by omega), sp_ne (by omega)]; exact p2
      · rw [sp_ne (by omega), sp_same, up_ne (by omega), sp_ne (by omega), sp_ne (by omega)]; exact p3
      · rw [sp_same, up_ne (by omega), sp_ne (by omega), sp_ne (by omega), sp_ne (by omega)]; exact p4
