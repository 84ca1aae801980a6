/-! a text in step -/
theorem rt50_s (f : Nat) (σ : St) (a b : Int32) : fX4_readTape_50 (f + 1) σ a b = fX4_readTape_50B (fX4_readTape_50 f) σ a b := rfl
theorem rt21_s (f : Nat) (τ : St) (a : Int32) : fX11_readText_21 (f + 1) τ a = fX11_readText_21B (fX11_readText_21 f) τ a := rfl
theorem text_both {laws : Bool} {T : Nat → Nat} {len n x : Nat} {σ0 τ0 : St} (hx : ctx laws T len n) : ∀ (r c f f' u : Nat) (σ τ : St) (P : Pg), c + r = n → r < f → r < f' → u ≤ c → lnS laws T len n x σ τ c P → frL x σ0 σ → frT2 τ0 τ → (∃ σ' τ', fX4_readTape_50 f σ 1 (nI u) = some (0, σ') ∧ fX11_readText_21 f' τ (nI P.length) = some (-1, τ') ∧ fltR σ' τ' ∧ frL x σ0 σ' ∧ frT2 τ0 τ') ∨ (∃ σ' τ' c' P', fX4_readTape_50 f σ 1 (nI u) = some (1, σ') ∧ fX11_readText_21 f' τ (nI P.length) = some (nI P'.length, τ') ∧ lnS laws T len n x σ' τ' c' P' ∧ frL x σ0 σ' ∧ frT2 τ0 τ') := by
  have n6 : n ≤ 600 := by have := hx.1; have := hx.2.1; omega
  intro r
  induction r using Nat.strongRecOn with
  | ind r ih =>
    intro c f f' u σ τ P hr hf hf' hu hs fL fT
    obtain ⟨f, rfl⟩ : ∃ g, f = g + 1 := ⟨f - 1, by omega⟩
    obtain ⟨f', rfl⟩ : ∃ g, f' = g + 1 := ⟨f' - 1, by omega⟩
    have k5 := hs.1.2.2.2.2.2.2.1
    have t5 := hs.2.1.2.2.2.2.1
    rw [rt50_s, rt21_s]; unfold fX4_readTape_50B
    rw [if_neg (show ¬ (600 : Int32) < nI u from fun q => absurd ((nI_ltI (a := 600) (by omega) (by omega)).mp q) (by omega)), if_neg n10, k5]
    by_cases k0 : kd laws T len c = 0
    · rw [if_pos (show nI (kd laws T len c) = 0 by rw [k0]; rfl), p_zb1]
      unfold fX11_readText_21B
      have b0 : fX11_isBegin τ = 0 := by
        rcases tk_begin t5 hs.2.1.2.1 with ⟨_, i, _, q, _⟩ | ⟨q, _⟩
        · omega
        · exact q
      rw [b0, if_pos rfl, if_pos ((tk_end t5).mpr k0)]
      exact Or.inr ⟨σ, τ, c, P, rfl, rfl, hs, fL, fT⟩
    · rw [if_neg (show ¬ nI (kd laws T len c) = 0 from fun q => k0 ((kd_eq (k := 0) hx (by omega)).mp q))]
      have hc := c_lt hx hs.1.2.2.2.2.1 (by omega)
      rcases line_both (rec21 := fX11_readText_21 f') hx hs k0 with ⟨σ', τ', d1, d2, d3, d4, d5⟩ | ⟨σ', τ', c', q, d1, d2, d3, d4, d5, d6, d7⟩
      · rw [d1, p_cb, d2]
        obtain ⟨f, rfl⟩ : ∃ g, f = g + 1 := ⟨f - 1, by omega⟩
        refine Or.inl ⟨σ', τ', ?_, rfl, d3, frL_t fL d4, frT2_t fT d5⟩
        rw [rt50_s]; unfold fX4_readTape_50B
        rw [if_pos (show (0 : Int32) = 0 from rfl), p_zb0]
        split <;> rfl
      · rw [d1, p_cb, d2, show nI u + 1 = nI (u + 1) from (nI_succ _).symm]
        have := ih (n - c') (by omega) c' f f' (u + 1) σ' τ' (P ++ [q]) (by omega) (by omega) (by omega) (by omega) d5 (frL_t fL d6) (frT2_t fT d7)
        rw [show (P ++ [q]).length = P.length + 1 by simp] at this
        exact this
/-! the model copies what it has read -/
theorem cp58_s (f : Nat) (τ : St) (a b c : Int32) : fX11_takesText_58 (f + 1) τ a b c = fX11_takesText_58B (fX11_takesText_58 f) τ a b c := rfl
theorem cp171_s (f : Nat) (τ : St) (a b c : Int32) : fX11_takesText_171 (f + 1) τ a b c = fX11_takesText_171B (fX11_takesText_171 f) τ a b c := rfl
theorem copyL {row L : Nat} {τ0 : St} (hrow : row < 2) (hL : L ≤ 16) : ∀ (d l f : Nat) (τ : St), l + d = L → d < f → (∀ a, ¬ (16 ≤ a ∧ a ≤ 20) → τ a = τ0 a) → (∀ a j, 16 ≤ a → a ≤ 20 → ¬ (16 * row ≤ j ∧ j < 16 * row + 16) → τ a j = τ0 a j) → (∀ a j, 16 ≤ a → a ≤ 20 → j < l → τ a (16 * row + j) = τ0 a (32 + j)) → ∃ τ', fX11_takesText_58 f τ (nI row) (nI L) (nI l) = fX11_takesText_171 FU τ' (nI row) (nI L) 0 ∧ (∀ a, ¬ (16 ≤ a ∧ a ≤ 20) → τ' a = τ0 a) ∧ (∀ a j, 16 ≤ a → a ≤ 20 → ¬ (16 * row ≤ j ∧ j < 16 * row + 16) → τ' a j = τ0 a j) ∧ (∀ a j, 16 ≤ a → a ≤ 20 → j < L → τ' a (16 * row + j) = τ0 a (32 + j)) := by
  intro d
  induction d with
  | zero =>
    intro l f τ h1 h2 g1 g2 g3
    obtain ⟨f, rfl⟩ : ∃ g, f = g + 1 := ⟨f - 1, by omega⟩
    have : l = L := by omega
    subst this
    rw [cp58_s]; unfold fX11_takesText_58B
    rw [if_pos (nI_le (Nat.le_refl _) (by omega))]
    exact ⟨τ, rfl, g1, g2, g3⟩
  | succ d ih =>
    intro l f τ h1 h2 g1 g2 g3
    obtain ⟨f, rfl⟩ : ∃ g, f = g + 1 := ⟨f - 1, by omega⟩
    rw [cp58_s]; unfold fX11_takesText_58B
    have i1 : (32 : Int32) + nI l = nI (32 + l) := nI_add 32 l
    have i2 : (16 : Int32) * nI row + nI l = nI (16 * row + l) := by rw [show (16 : Int32) = nI 16 from rfl, pk_mul, nI_add]
    rw [if_neg (fun q => absurd ((nI_leI (by omega) (by omega)).mp q) (by omega)), i1, i2, show nI l + 1 = nI (l + 1) from (nI_succ _).symm]
    rw [p_rdN (by omega) (by omega), p_wrN (by omega) (by omega), p_rdN (by omega) (by omega), p_wrN (by omega) (by omega), p_rdN (by omega) (by omega), p_wrN (by omega) (by omega), p_rdN (by omega) (by omega), p_wrN (by omega) (by omega), p_rdN (by omega) (by omega), p_wrN (by omega) (by omega)]
    rw [sp_ne (a := 17) (by omega), sp_ne (a := 18) (by omega), sp_ne (a := 18) (by omega), sp_ne (a := 19) (by omega), sp_ne (a := 19) (by omega), sp_ne (a := 19) (by omega), sp_ne (a := 20) (by omega), sp_ne (a := 20) (by omega), sp_ne (a := 20) (by omega), sp_ne (a := 20) (by omega)]
    generalize hB : st_put (st_put (st_put (st_put (st_put τ 16 (16 * row + l) (τ 16 (32 + l))) 17 (16 * row + l) (τ 17 (32 + l))) 18 (16 * row + l) (τ 18 (32 + l))) 19 (16 * row + l) (τ 19 (32 + l))) 20 (16 * row + l) (τ 20 (32 + l)) = B
    have bs : ∀ a, ¬ (16 ≤ a ∧ a ≤ 20) → B a = τ a := fun a ha => by rw [← hB, sp_ne (by omega), sp_ne (by omega), sp_ne (by omega), sp_ne (by omega), sp_ne (by omega)]
    have bv : ∀ a, 16 ≤ a → a ≤ 20 → B a = upd (τ a) (16 * row + l) (τ a (32 + l)) := by
      intro a a1 a2
      rcases (show a = 16 ∨ a = 17 ∨ a = 18 ∨ a = 19 ∨ a = 20 by omega) with rfl | rfl | rfl | rfl | rfl
      · rw [← hB, sp_ne (by omega), sp_ne (by omega), sp_ne (by omega), sp_ne (by omega), sp_same]
      · rw [← hB, sp_ne (by omega), sp_ne (by omega), sp_ne (by omega), sp_same, sp_ne (by omega)]
      · rw [← hB, sp_ne (by omega), sp_ne (by omega), sp_same, sp_ne (by omega), sp_ne (by omega)]
      · rw [← hB, sp_ne (by omega), sp_same, sp_ne (by omega), sp_ne (by omega), sp_ne (by omega)]
      · rw [← hB, sp_same, sp_ne (by omega), sp_ne (by omega), sp_ne (by omega), sp_ne (by omega)]
    refine ih (l + 1) f B (by omega) (by omega) (fun a ha => by rw [bs a ha, g1 a ha]) (fun a j a1 a2 hj => by rw [bv a a1 a2, up_ne (by omega)]; exact g2 a j a1 a2 hj) (fun a j a1 a2 hj => ?_)
    rw [bv a a1 a2]
    by_cases z : j = l
    · rw [z, up_same]; exact g2 a (32 + l) a1 a2 (by omega)
    · rw [up_ne (by omega)]; exact g3 a j a1 a2 (by omega)
theorem copyO {row L M : Nat} {τ0 : St} (hrow : row < 2) (hM : M ≤ 600) (e33 : τ0 0 33 = nI M) : ∀ (d l f : Nat) (τ : St), l + d = M → d < f → (∀ a, ¬ a = 21 → ¬ a = 22 → τ a = τ0 a) → (∀ a j, a = 21 ∨ a = 22 → ¬ (600 * row ≤ j ∧ j < 600 * row + 600) → τ a j = τ0 a j) → (∀ a j, a = 21 ∨ a = 22 → j < l → τ a (600 * row + j) = τ0 a (1200 + j)) → ∃ τ', fX11_takesText_171 f τ (nI row) (nI L) (nI l) = some (nI L, τ') ∧ (∀ a, ¬ a = 15 → ¬ a = 21 → ¬ a = 22 → τ' a = τ0 a) ∧ τ' 15 = upd (τ0 15) row (nI L) ∧ (∀ a j, a = 21 ∨ a = 22 → ¬ (600 * row ≤ j ∧ j < 600 * row + 600) → τ' a j = τ0 a j) ∧ (∀ a j, a = 21 ∨ a = 22 → j < M → τ' a (600 * row + j) = τ0 a (1200 + j)) := by
  intro d
  induction d with
  | zero =>
    intro l f τ h1 h2 g1 g2 g3
    obtain ⟨f, rfl⟩ : ∃ g, f = g + 1 := ⟨f - 1, by omega⟩
    have : l = M := by omega
    subst this
    rw [cp171_s]; unfold fX11_takesText_171B
    rw [g1 0 (by omega) (by omega), e33, if_pos (nI_le (Nat.le_refl _) (by omega)), p_wrN (by omega) (by omega)]
    refine ⟨_, rfl, fun a h15 h21 h22 => by rw [sp_ne h15, g1 a h21 h22], by rw [sp_same, g1 15 (by omega) (by omega)], fun a j ha hj => by rw [sp_ne (by omega)]; exact g2 a j ha hj, fun a j ha hj => by rw [sp_ne (by omega)]; exact g3 a j ha hj⟩
  | succ d ih =>
    intro l f τ h1 h2 g1 g2 g3
    obtain ⟨f, rfl⟩ : ∃ g, f = g + 1 := ⟨f - 1, by omega⟩
    rw [cp171_s]; unfold fX11_takesText_171B
    have i1 : (1200 : Int32) + nI l = nI (1200 + l) := nI_add 1200 l
    have i2 : (600 : Int32) * nI row + nI l = nI (600 * row + l) := by rw [show (600 : Int32) = nI 600 from rfl, pk_mul, nI_add]
    rw [g1 0 (by omega) (by omega), e33, if_neg (fun q => absurd ((nI_leI (by omega) (by omega)).mp q) (by omega)), i1, i2, show nI l + 1 = nI (l + 1) from (nI_succ _).symm, p_rdN (by omega) (by omega), p_wrN (by omega) (by omega), p_rdN (by omega) (by omega), p_wrN (by omega) (by omega), sp_ne (a := 22) (by omega)]
    generalize hB : st_put (st_put τ 21 (600 * row + l) (τ 21 (1200 + l))) 22 (600 * row + l) (τ 22 (1200 + l)) = B
    have bs : ∀ a, ¬ a = 21 → ¬ a = 22 → B a = τ a := fun a h1 h2 => by rw [← hB, sp_ne h2, sp_ne h1]
    have bv : ∀ a, a = 21 ∨ a = 22 → B a = upd (τ a) (600 * row + l) (τ a (1200 + l)) := by
      rintro a (rfl | rfl)
      · rw [← hB, sp_ne (by omega), sp_same]
      · rw [← hB, sp_same, sp_ne (by omega)]
    refine ih (l + 1) f B (by omega) (by omega) (fun a h1 h2 => by rw [bs a h1 h2, g1 a h1 h2]) (fun a j ha hj => by rw [bv a ha, up_ne (by omega)]; exact g2 a j ha hj) (fun a j ha hj => ?_)
    rw [bv a ha]
    by_cases z : j = l
    · rw [z, up_same]; exact g2 a (1200 + l) ha (by omega)
    · rw [up_ne (by omega)]; exact g3 a j ha (by omega)
