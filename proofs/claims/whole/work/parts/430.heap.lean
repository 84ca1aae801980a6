/-- one more than the greatest of the first n that isn't 0 -/
def topN (O : Nat → Nat) : Nat → Nat
  | 0 => 0
  | L + 1 => if 0 < O L then L + 1 else topN O L
theorem topN_s (O : Nat → Nat) (L : Nat) : topN O (L + 1) = if 0 < O L then L + 1 else topN O L := rfl
theorem topN_le (O : Nat → Nat) : ∀ n, topN O n ≤ n := by
  intro n
  induction n with
  | zero => exact Nat.le_refl _
  | succ n ih => rw [topN_s]; split <;> omega
/-- without gaps: those below the top aren't 0, the rest are -/
theorem topN_iff {O : Nat → Nat} {n : Nat} (hc : ∀ z, z + 1 < n → O z = 0 → O (z + 1) = 0) : ∀ z, z < n → (z < topN O n ↔ 0 < O z) := by
  have gap : ∀ d z, z + d < n → O z = 0 → O (z + d) = 0 := by
    intro d
    induction d with
    | zero => intro z _ h; exact h
    | succ d ih => intro z hz h; exact hc (z + d) (by omega) (ih z (by omega) h)
  have main : ∀ m, m ≤ n → ∀ z, z < m → (z < topN O m ↔ 0 < O z) := by
    intro m
    induction m with
    | zero => intro _ z hz; omega
    | succ m ih =>
      intro hm z hz
      rw [topN_s]
      by_cases h : 0 < O m
      · rw [if_pos h]
        constructor
        · intro _
          rcases Nat.eq_zero_or_pos (O z) with e | e
          · have := gap (m - z) z (by omega) e
            rw [show z + (m - z) = m by omega] at this
            omega
          · exact e
        · intro _; omega
      · rw [if_neg h]
        by_cases e : z = m
        · subst e
          have := topN_le O z
          constructor
          · intro q; omega
          · intro q; omega
        · exact ih (by omega) z (by omega)
  exact fun z hz => main n (Nat.le_refl n) z hz
theorem add_m1 (x : Int32) : x + (-1) = x - 1 := by grind
theorem nI_le0 {n : Nat} (h : n < 2147483648) : nI n ≤ 0 ↔ n = 0 := by
  constructor
  · intro q
    rcases Nat.eq_zero_or_pos n with e | e
    · exact e
    · exact absurd q (nI_nle e (by omega))
  · intro q; subst q; decide
theorem nI_lt0 {n : Nat} (h : n < 2147483648) : ¬ nI n < 0 := nI_pos (by omega)
theorem nI_0lt {n : Nat} (h : n < 2147483648) : 0 < nI n ↔ 0 < n := nI_ltI (a := 0) (b := n) (by omega) (by omega)
theorem nI_e0 {n : Nat} (h : n < 2147483648) : nI n = 0 ↔ n = 0 := nI_eq (a := n) (b := 0) (by omega) (by omega)
theorem h20_s (b : Nat) (σ : St) (n : Nat) (x y : Int32) : fX8_height_20 b σ (n + 1) x y = fX8_height_20B b σ (fX8_height_20 b σ n) x y := rfl
/-- the class's HEIGHT of a column -/
theorem height_loop {b k l : Nat} {σ : St} {O : Nat → Nat} (hl : σ b 1 = nI l) (hk : k * l + l ≤ stN b) (hs : stN b < 1000) (hl9 : l < 100) (hO : ∀ z, z < l → O z < 1000 ∧ σ (b + 1) (k * l + z) = nI (O z)) : ∀ L, L ≤ l → ∀ f, L < f → fX8_height_20 b σ f (nI k) (nI L - 1) = some (nI (topN O L)) := by
  intro L
  induction L with
  | zero =>
    intro _ f hf
    obtain ⟨f, rfl⟩ : ∃ g, f = g + 1 := ⟨f - 1, by omega⟩
    rw [h20_s]; unfold fX8_height_20B
    rw [if_pos (by decide)]; rfl
  | succ L ih =>
    intro hL f hf
    obtain ⟨f, rfl⟩ : ∃ g, f = g + 1 := ⟨f - 1, by omega⟩
    obtain ⟨h1, h2⟩ := hO L (by omega)
    rw [h20_s, nI_pred]; unfold fX8_height_20B
    rw [if_neg (nI_lt0 (by omega)), hl, pk_mul, nI_add, p_rdN (by omega) (by omega), h2]
    by_cases c : O L = 0
    · rw [if_pos ((nI_le0 (by omega)).mpr c), add_m1, ih (by omega) f (by omega), topN_s, if_neg (by omega)]
    · rw [if_neg (fun q => c ((nI_le0 (by omega)).mp q))]
      rw [topN_s, if_pos (by omega), nI_succ]
theorem height_spec {b k l c : Nat} {σ : St} {O : Nat → Nat} (hc : σ b 0 = nI c) (hkc : k < c) (hc9 : c < 1000) (hl : σ b 1 = nI l) (hk : k * l + l ≤ stN b) (hs : stN b < 1000) (hl9 : l < 100) (hO : ∀ z, z < l → O z < 1000 ∧ σ (b + 1) (k * l + z) = nI (O z)) : fX8_height b σ (nI k) = some (nI (topN O l)) := by
  unfold fX8_height
  rw [hc, wi_t ⟨nI_pos' (by omega), nI_lt hkc (by omega)⟩, if_neg n10, hl]
  exact height_loop hl hk hs hl9 hO l (Nat.le_refl l) FU (by rw [FU_eq]; omega)
theorem stN_5 : stN 5 = 256 := rfl
/-- HEIGHT of a column of the heap -/
theorem pile_height {σ τ : St} {O W : Nat → Nat → Nat} (hp : (σ 5 0 = 64 ∧ σ 5 1 = 4 ∧ σ 5 2 = 1)) (hr : r_cells O W) (hc : ∀ k z, k < 64 → z < 4 → σ 6 (4 * k + z) = nI (O k z)) {k : Nat} (hk : k < 64) : fX8_height 5 σ (nI k) = some (nI (topN (O k) 4)) := by
  refine height_spec (c := 64) (l := 4) hp.1 hk (by omega) hp.2.1 (by rw [stN_5]; omega) (by rw [stN_5]; omega) (by omega) (fun z hz => ?_)
  have h1 := (hr.1 k z hk hz).1
  refine ⟨by omega, ?_⟩
  rw [Nat.mul_comm k 4]
  exact hc k z hk hz
theorem sw_lt {k : Nat} (h : k < 64) : sw k < 64 := by unfold sw; omega
theorem sw_inj {a b : Nat} (ha : a < 64) (hb : b < 64) (h : sw a = sw b) : a = b := by unfold sw at h; omega
