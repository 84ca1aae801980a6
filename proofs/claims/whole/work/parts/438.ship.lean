/-! the ship: world w of the model, the class's ship at b -/
def r_holdsW (w : Nat) (oa wa ka pa om wm km pm : Nat → Int32) (O W K P : Nat → Nat) : Prop := ∀ j, j < 144 → oa j = nI (O j) ∧ wa j = nI (W j) ∧ ka j = nI (K j) ∧ pa j = nI (P j) ∧ om (144 * w + j) = nI (O j) ∧ wm (144 * w + j) = nI (W j) ∧ km (144 * w + j) = nI (K j) ∧ pm (144 * w + j) = nI (P j)
def r_hW (w b : Nat) (σ τ : St) (O W K P : Nat → Nat) : Prop := r_holdsW w (σ (b + 2 + 1)) (σ (b + 2 + 2)) (σ (b + 2 + 3)) (σ (b + 2 + 4)) (τ 5) (τ 6) (τ 7) (τ 8) O W K P
theorem g_hW {σ τ : St} (h : Rel σ τ) : ∃ O W K P, r_hold O W K P ∧ r_hW 0 10 σ τ O W K P := by
  obtain ⟨O, W, K, P, h1, h2⟩ := g_holds h
  refine ⟨O, W, K, P, h1, fun j hj => ?_⟩
  rw [show 144 * 0 + j = j by omega]
  exact h2 j hj
theorem moC_s (b : Nat) (σ : St) (f : Nat) (x y : Int32) : fX5_moment_4 b σ (f + 1) x y = fX5_moment_4B b σ (fX5_moment_4 b σ f) x y := rfl
theorem weC_s (b : Nat) (σ : St) (f : Nat) (x y : Int32) : fX5_weight_6 b σ (f + 1) x y = fX5_weight_6B b σ (fX5_weight_6 b σ f) x y := rfl
theorem moM_s (σ : St) (f : Nat) (x y z : Int32) : fX11_momentOf_8 σ (f + 1) x y z = fX11_momentOf_8B σ (fX11_momentOf_8 σ f) x y z := rfl
theorem weM_s (σ : St) (f : Nat) (x y z : Int32) : fX11_weightOf_10 σ (f + 1) x y z = fX11_weightOf_10B σ (fX11_weightOf_10 σ f) x y z := rfl
theorem coC_s (b : Nat) (σ : St) (f : Nat) (x y : Int32) : fX8_cellsWithOre_4 b σ (f + 1) x y = fX8_cellsWithOre_4B b σ (fX8_cellsWithOre_4 b σ f) x y := rfl
theorem csC_s (b : Nat) (σ : St) (f : Nat) (x y : Int32) : fX8_cellsOfSoup_4 b σ (f + 1) x y = fX8_cellsOfSoup_4B b σ (fX8_cellsOfSoup_4 b σ f) x y := rfl
theorem coM_s (σ : St) (f : Nat) (x y : Int32) : fX11_loaded_4 σ (f + 1) x y = fX11_loaded_4B σ (fX11_loaded_4 σ f) x y := rfl
theorem csM_s (σ : St) (f : Nat) (x y : Int32) : fX11_ship_138 (f + 1) σ x y = fX11_ship_138B (fX11_ship_138 f) σ x y := rfl
theorem c_full {n : Nat} (i : Nat) (hn : n < 2000) (hi : i = n) : nI n ≤ nI i := nI_le (by omega) (by omega)
theorem c_less {n : Nat} (i : Nat) (hn : n < 2000) (hi : i < n) : ¬ nI n ≤ nI i := fun q => absurd ((nI_leI (by omega) (by omega)).mp q) (by omega)
theorem w144 (w : Nat) : (144 : Int32) * nI w + 144 = nI (144 * w + 144) := by
  rw [show (144 : Int32) = nI 144 from rfl, pk_mul, nI_add]
theorem w144z (w : Nat) : (144 : Int32) * nI w = nI (144 * w) := by
  rw [show (144 : Int32) = nI 144 from rfl, pk_mul]
theorem arm_at {i : Nat} (hi : i < 1000) : (nI i / 6 - nI i / 6 / 6 * 6) = nI (i / 6 % 6) := by
  rw [show (6 : Int32) = nI 6 from rfl, pk_div (by omega) (by omega) (by omega)]
  have := pk_rem (a := i / 6) (d := 6) (by omega) (by omega) (by omega)
  rw [this]
theorem moment_both {σ τ : St} {w b : Nat} {O W K P : Nat → Nat} (hw : w < 2) (hb : stN (b + 2) = 144) (hh : r_hW w b σ τ O W K P) : ∀ (d i f : Nat) (x : Int32), i + d = 144 → d < f → ∃ r, fX5_moment_4 b σ f x (nI i) = some r ∧ fX11_momentOf_8 τ f (nI w) x (nI (144 * w + i)) = some r := by
  intro d
  induction d with
  | zero =>
    intro i f x hi hf
    obtain ⟨f, rfl⟩ : ∃ g, f = g + 1 := ⟨f - 1, by omega⟩
    rw [moC_s, moM_s]; unfold fX5_moment_4B fX11_momentOf_8B
    rw [hb, if_pos (c_full i (by omega) (by omega)), w144, if_pos (c_full _ (by omega) (by omega))]
    exact ⟨x, rfl, rfl⟩
  | succ d ih =>
    intro i f x hi hf
    obtain ⟨f, rfl⟩ : ∃ g, f = g + 1 := ⟨f - 1, by omega⟩
    obtain ⟨h1, h2, h3, h4, h5, h6, h7, h8⟩ := hh i (by omega)
    rw [moC_s, moM_s]; unfold fX5_moment_4B fX11_momentOf_8B fX5_heft fX11_columnArm fX10_columnArm
    rw [hb, if_neg (c_less i (by omega) (by omega)), w144, if_neg (c_less _ (by omega) (by omega)), p_rdN (by omega) (by omega), p_rdN (by omega) (by omega), p_rdN (by omega) (by omega), p_rdN (by omega) (by omega), h1, h2, h5, h6, p_cq, p_nm, p_nm, arm_at (by omega), arm_at (by omega), show (144 * w + i) / 6 % 6 = i / 6 % 6 by omega, ← nI_succ, ← nI_succ]
    exact ih (i + 1) f _ (by omega) (by omega)
theorem weight_both {σ τ : St} {w b : Nat} {O W K P : Nat → Nat} (hw : w < 2) (hb : stN (b + 2) = 144) (hh : r_hW w b σ τ O W K P) : ∀ (d i f : Nat) (x : Int32), i + d = 144 → d < f → ∃ r, fX5_weight_6 b σ f x (nI i) = some r ∧ fX11_weightOf_10 τ f (nI w) x (nI (144 * w + i)) = some r := by
  intro d
  induction d with
  | zero =>
    intro i f x hi hf
    obtain ⟨f, rfl⟩ : ∃ g, f = g + 1 := ⟨f - 1, by omega⟩
    rw [weC_s, weM_s]; unfold fX5_weight_6B fX11_weightOf_10B
    rw [hb, if_pos (c_full i (by omega) (by omega)), w144, if_pos (c_full _ (by omega) (by omega))]
    exact ⟨x, rfl, rfl⟩
  | succ d ih =>
    intro i f x hi hf
    obtain ⟨f, rfl⟩ : ∃ g, f = g + 1 := ⟨f - 1, by omega⟩
    obtain ⟨h1, h2, h3, h4, h5, h6, h7, h8⟩ := hh i (by omega)
    rw [weC_s, weM_s]; unfold fX5_weight_6B fX11_weightOf_10B fX5_heft
    rw [hb, if_neg (c_less i (by omega) (by omega)), w144, if_neg (c_less _ (by omega) (by omega)), p_rdN (by omega) (by omega), p_rdN (by omega) (by omega), p_rdN (by omega) (by omega), p_rdN (by omega) (by omega), h1, h2, h5, h6, p_cq, ← nI_succ, ← nI_succ, Int32.add_assoc]
    exact ih (i + 1) f _ (by omega) (by omega)
theorem ore_both {σ τ : St} {O W K P : Nat → Nat} (hr : r_hold O W K P) (hh : r_hW 0 10 σ τ O W K P) : ∀ (d i f n : Nat), i + d = 144 → d < f → n ≤ i → ∃ r : Nat, r ≤ 144 ∧ fX8_cellsWithOre_4 12 σ f (nI n) (nI i) = some (nI r) ∧ fX11_loaded_4 τ f (nI n) (nI i) = some (nI r) := by
  intro d
  induction d with
  | zero =>
    intro i f n hi hf hn
    obtain ⟨f, rfl⟩ : ∃ g, f = g + 1 := ⟨f - 1, by omega⟩
    rw [coC_s, coM_s]; unfold fX8_cellsWithOre_4B fX11_loaded_4B
    rw [show stN 12 = 144 from rfl, if_pos (c_full i (by omega) (by omega)), if_pos (show (144 : Int32) ≤ nI i from c_full (n := 144) _ (by omega) (by omega))]
    exact ⟨n, by omega, rfl, rfl⟩
  | succ d ih =>
    intro i f n hi hf hn
    obtain ⟨f, rfl⟩ : ∃ g, f = g + 1 := ⟨f - 1, by omega⟩
    obtain ⟨h1, h2, h3, h4, h5, h6, h7, h8⟩ := hh i (by omega)
    have o9 := (hr.1 i (by omega)).1
    rw [show 144 * 0 + i = i by omega] at h5
    rw [coC_s, coM_s]; unfold fX8_cellsWithOre_4B fX11_loaded_4B
    rw [show stN 12 = 144 from rfl, if_neg (c_less i (by omega) (by omega)), if_neg (show ¬ (144 : Int32) ≤ nI i from c_less (n := 144) _ (by omega) (by omega)), p_rdN (by omega) (by omega), p_rdN (by omega) (by omega), h1, h5, show nI n + 0 = nI n from Int32.add_zero _, show nI n + 1 = nI (n + 1) from (nI_succ n).symm, ← nI_succ]
    by_cases c : O i = 0
    · rw [if_pos ((nI_le0 (by omega)).mpr c), if_pos ((nI_le0 (by omega)).mpr c)]
      exact ih (i + 1) f n (by omega) (by omega) (by omega)
    · rw [if_neg (fun q => c ((nI_le0 (by omega)).mp q)), if_neg (fun q => c ((nI_le0 (by omega)).mp q))]
      exact ih (i + 1) f (n + 1) (by omega) (by omega) (by omega)
theorem soup_both {σ τ : St} {O W K P : Nat → Nat} (hr : r_hold O W K P) (hh : r_hW 0 10 σ τ O W K P) : ∀ (d i f : Nat) (n : Int32), i + d = 144 → d < f → ∃ r, fX8_cellsOfSoup_4 12 σ f n (nI i) = some r ∧ fX11_ship_138 f τ n (nI i) = some (r, τ) := by
  intro d
  induction d with
  | zero =>
    intro i f n hi hf
    obtain ⟨f, rfl⟩ : ∃ g, f = g + 1 := ⟨f - 1, by omega⟩
    rw [csC_s, csM_s]; unfold fX8_cellsOfSoup_4B fX11_ship_138B
    rw [show stN 12 = 144 from rfl, if_pos (c_full i (by omega) (by omega)), if_pos (show (144 : Int32) ≤ nI i from c_full (n := 144) _ (by omega) (by omega))]
    exact ⟨n, rfl, rfl⟩
  | succ d ih =>
    intro i f n hi hf
    obtain ⟨f, rfl⟩ : ∃ g, f = g + 1 := ⟨f - 1, by omega⟩
    obtain ⟨h1, h2, h3, h4, h5, h6, h7, h8⟩ := hh i (by omega)
    have p1 := (hr.1 i (by omega)).2.2.2.1
    rw [show 144 * 0 + i = i by omega] at h8
    rw [csC_s, csM_s]; unfold fX8_cellsOfSoup_4B fX11_ship_138B
    rw [show stN 12 = 144 from rfl, if_neg (c_less i (by omega) (by omega)), if_neg (show ¬ (144 : Int32) ≤ nI i from c_less (n := 144) _ (by omega) (by omega)), p_rdN (by omega) (by omega), p_rdN (by omega) (by omega), h4, h8, ← nI_succ]
    rcases (show P i = 0 ∨ P i = 1 by omega) with c | c
    · rw [c, if_pos (show nI 0 = 0 from rfl), show n + nI 0 = n from Int32.add_zero _]
      exact ih (i + 1) f n (by omega) (by omega)
    · rw [c, if_neg (show ¬ nI 1 = 0 by decide)]
      exact ih (i + 1) f (n + 1) (by omega) (by omega)
theorem opp_13 : op_13 Rel := by
  intro σ τ a0 h
  have ht := rel_told h 0
  obtain ⟨O, W, K, P, hr, hh⟩ := g_hW ht
  have fu : 144 < FU := by rw [FU_eq]; omega
  obtain ⟨r2, m2, n2⟩ := moment_both (w := 0) (b := 10) (by omega) rfl hh 144 0 FU 0 (by omega) fu
  obtain ⟨r3, m3, n3⟩ := weight_both (w := 0) (b := 10) (by omega) rfl hh 144 0 FU 2000 (by omega) fu
  obtain ⟨r8, _, m8, n8⟩ := ore_both hr hh 144 0 FU 0 (by omega) fu (by omega)
  obtain ⟨r9, m9, n9⟩ := soup_both hr hh 144 0 FU 0 (by omega) fu
  obtain ⟨N, _, e1, e2⟩ := g_now ht
  obtain ⟨S, _, e3, e4⟩ := g_sea ht
  obtain ⟨T, _, e5, e6⟩ := g_sort ht
  have M2 : fX11_momentOf (st_put τ 0 0 0) 0 = some r2 := n2
  have M3 : fX11_weightOf (st_put τ 0 0 0) 0 = some r3 := n3
  have M8 : fX11_loaded (st_put τ 0 0 0) = some (nI r8) := n8
  have M9 : fX11_ship_138 FU (st_put τ 0 0 0) 0 0 = some (r9, st_put τ 0 0 0) := n9
  have C2 : fX5_moment 10 σ = some r2 := m2
  have C3 : fX5_weight 10 σ = some r3 := m3
  have C8 : fX8_cellsWithOre (10 + 2) σ = some (nI r8) := m8
  have C9 : fX8_cellsOfSoup (10 + 2) σ = some r9 := m9
  have z2 : vp_in (nI 0) 2 := vp_in_nI (by omega) (by omega)
  unfold fX10_ship fX11_ship
  simp only [p_nmS]
  rw [M2, M3, M8, M9, C2, C3, C8, C9, p_cq, p_cq, p_cq, p_cq, p_cq, p_cq, p_rd (i := 0) z2, p_rd (i := 0) z2, p_rd (i := 0) z2, show (0 : Int32).toNatClampNeg = 0 from rfl, ← g_lean ht, ← (g_gone ht).1, ← g_well ht, ← g_out ht, e1, e2, e3, e4, e5, e6]
  by_cases d0 : a0 = 0
  · simp only [if_pos d0]; exact ⟨_, _, rfl, rfl, ht⟩
  simp only [if_neg d0]
  by_cases d1 : a0 = 1
  · simp only [if_pos d1]
    by_cases d : nI S = 0
    · simp only [if_pos d]; exact ⟨_, _, rfl, rfl, ht⟩
    · simp only [if_neg d]; exact ⟨_, _, rfl, rfl, ht⟩
  simp only [if_neg d1]
  by_cases d2 : a0 = 2
  · simp only [if_pos d2]; exact ⟨_, _, rfl, rfl, ht⟩
  simp only [if_neg d2]
  by_cases d3 : a0 = 3
  · simp only [if_pos d3]; exact ⟨_, _, rfl, rfl, ht⟩
  simp only [if_neg d3]
  by_cases d4 : a0 = 4
  · simp only [if_pos d4]; exact ⟨_, _, rfl, rfl, ht⟩
  simp only [if_neg d4]
  by_cases d5 : a0 = 5
  · simp only [if_pos d5]; exact ⟨_, _, rfl, rfl, ht⟩
  simp only [if_neg d5]
  by_cases d6 : a0 = 6
  · simp only [if_pos d6]; exact ⟨_, _, rfl, rfl, ht⟩
  simp only [if_neg d6]
  by_cases d7 : a0 = 7
  · simp only [if_pos d7]; exact ⟨_, _, rfl, rfl, ht⟩
  simp only [if_neg d7]
  by_cases d8 : a0 = 8
  · simp only [if_pos d8]; exact ⟨_, _, rfl, rfl, ht⟩
  simp only [if_neg d8]
  by_cases d9 : a0 = 9
  · subst d9; exact ⟨_, _, rfl, rfl, ht⟩
  simp only [if_neg d9]
  by_cases d10 : a0 = 10
  · simp only [if_pos d10]; exact ⟨_, _, rfl, rfl, ht⟩
  simp only [if_neg d10]
  exact ⟨_, _, rfl, rfl, ht⟩
