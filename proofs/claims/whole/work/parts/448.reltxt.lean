/-! a new text, the rest as it was -/
def txC (a : Nat) : Bool := a == 24 || a == 26 || a == 27 || (28 ≤ a && a ≤ 33) || a == 17 || a == 18 || (20 ≤ a && a ≤ 23) || a == 40 || 44 ≤ a
def txM (a : Nat) : Bool := a == 0 || (15 ≤ a && a ≤ 26) || a == 28 || a == 34
theorem rel_txt {σ σ' τ τ' : St} (h : Rel σ τ) (hC : ∀ a, txC a = false → σ' a = σ a) (hM : ∀ a, txM a = false → τ' a = τ a) (c1 : σ' 24 1 = σ 24 1) (c2 : σ' 28 1 = σ 28 1) (m0 : ∀ j, j < 18 ∨ j = 18 ∨ 41 ≤ j → τ' 0 j = τ 0 j) (hf : σ' 24 8 = τ' 0 39 ∧ σ' 24 9 = τ' 0 40) (ht : r_txt σ' τ') : Rel σ' τ' := by
  obtain ⟨h1, h2, h3, h4, h5, h6, h7, h8, h9, h10, h11, h12, h13, h14, h15, h16, h17, h18, h19, h20, h21, h22, h23, h24, h25, h26⟩ := h
  refine ⟨?_, ?_, ?_, ?_, hf, ?_, ?_, ?_, ?_, ?_, ?_, ?_, ?_, ?_, ?_, ?_, ?_, ?_, ?_, ?_, ht, ?_, ?_, ?_, ?_, ?_⟩
  · rw [hC 0 rfl, m0 1 (by omega)]; exact h1
  · rw [c2, m0 2 (by omega)]; exact h2
  · rw [hC 0 rfl, m0 53 (by omega)]; exact h3
  · rw [hC 34 rfl, m0 52 (by omega)]; exact h4
  · rw [hC 3 rfl, hC 4 rfl, hM 1 rfl, hM 2 rfl]; exact h6
  · rw [hC 5 rfl, hC 6 rfl, hC 7 rfl, hC 8 rfl, hC 9 rfl, hM 3 rfl, hM 4 rfl]; exact h7
  · rw [hC 5 rfl, m0 11 (by omega)]; exact h8
  · rw [hC 12 rfl]; exact h9
  · rw [hC 19 rfl]; exact h10
  · rw [hC 13 rfl, hC 14 rfl, hC 15 rfl, hC 16 rfl, hM 5 rfl, hM 6 rfl, hM 7 rfl, hM 8 rfl]; exact h11
  · rw [hC 12 rfl, hM 9 rfl]; exact h12
  · rw [hC 10 rfl, m0 13 (by omega)]; exact h13
  · rw [hC 10 rfl, hM 10 rfl]; exact h14
  · rw [hC 10 rfl, hM 11 rfl]; exact h15
  · rw [hC 10 rfl, hM 12 rfl]; exact h16
  · rw [hC 10 rfl, m0 45 (by omega)]; exact h17
  · rw [hC 11 rfl, hM 27 rfl]; exact h18
  · rw [c1, m0 18 (by omega), hC 25 rfl, hM 13 rfl]; exact h19
  · rw [hM 14 rfl]; exact h20
  · rw [hC 0 rfl, hC 34 rfl, m0 48 (by omega), hC 35 rfl, hC 36 rfl, hC 37 rfl, hM 30 rfl, hM 32 rfl, hM 31 rfl]; exact h22
  · rw [hC 39 rfl, hM 33 rfl]; exact h23
  · rw [hC 0 rfl, m0 56 (by omega), hC 1 rfl, hM 35 rfl]; exact h24
  · rw [hC 41 rfl, m0 58 (by omega), hC 42 rfl, hC 43 rfl, hM 36 rfl, hM 37 rfl, hM 38 rfl, hM 39 rfl]; exact h25
  · rw [hM 29 rfl]; exact h26
/-- r_txt where only what asking and the ways write has changed -/
def r_txtAt (σ τ : St) (P Q : Pg) (x y w : Nat) : Prop := fW x ∧ fW y ∧ fW w ∧ x ≠ y ∧ x ≠ w ∧ y ≠ w ∧ σ 24 7 = nI x ∧ σ 28 0 = nI y ∧ σ 30 0 = nI w ∧ okPg 9 4 mpL P ∧ okPg 8 3 mpC Q ∧ r_wordsAt σ y P ∧ r_rowsAt τ 0 0 mpL P ∧ r_wordsAt σ w Q ∧ r_rowsAt τ 1 4 mpC Q ∧ r_ways (σ 30 1) (σ 31) (σ 32) Q
theorem g_txtAt {σ τ : St} (h : Rel σ τ) : ∃ P Q x y w, r_txtAt σ τ P Q x y w := g_txt h
theorem at_code {σ τ : St} {P Q : Pg} {x y w : Nat} (h : r_txtAt σ τ P Q x y w) : codeC σ w Q ∧ codeM τ Q ∧ r_ways (σ 30 1) (σ 31) (σ 32) Q := by
  obtain ⟨fx, fy, fw, n1, n2, n3, e1, e2, e3, g1, g2, g3, g4, g5, g6, g7⟩ := h
  exact ⟨⟨fw, g2, e3, g5⟩, ⟨g2, g6⟩, g7⟩
theorem r_txt_ways {σ σ' τ τ' : St} {P Q : Pg} {x y w0 : Nat} (h : r_txtAt σ τ P Q x y w0) (h1 : ∀ a, ¬ a = 30 → ¬ a = 31 → ¬ a = 32 → ¬ a = 33 → ¬ a = w0 + 6 → σ' a = σ a) (h4 : σ' 30 0 = σ 30 0) (h8 : ∀ a, 15 ≤ a → a ≤ 22 → τ' a = τ a) (hw : r_ways (σ' 30 1) (σ' 31) (σ' 32) Q) : r_txt σ' τ' := by
  obtain ⟨fx, fy, fw, n1, n2, n3, e1, e2, e3, g1, g2, g3, g4, g5, g6, g7⟩ := h
  have ge : ∀ {b : Nat}, fW b → ∀ i, i ≤ 5 → σ' (b + i) = σ (b + i) := by
    intro b hb i hi
    refine h1 _ ?_ ?_ ?_ ?_ ?_ <;> rcases hb with rfl | rfl | rfl <;> rcases fw with rfl | rfl | rfl <;> omega
  have w44 := fW_ge fw
  refine ⟨P, Q, x, y, w0, fx, fy, fw, n1, n2, n3, by rw [h1 24 (by omega) (by omega) (by omega) (by omega) (by omega)]; exact e1, by rw [h1 28 (by omega) (by omega) (by omega) (by omega) (by omega)]; exact e2, by rw [h4]; exact e3, g1, g2, ?_, ?_, ?_, ?_, hw⟩
  · have gg := fun i hi => ge fy i hi
    unfold r_wordsAt at *
    rw [show σ' y = σ y from gg 0 (by omega), gg 1 (by omega), gg 2 (by omega), gg 3 (by omega), gg 4 (by omega), gg 5 (by omega)]
    exact g3
  · unfold r_rowsAt at *
    rw [h8 15 (by omega) (by omega), h8 16 (by omega) (by omega), h8 17 (by omega) (by omega), h8 18 (by omega) (by omega), h8 19 (by omega) (by omega), h8 20 (by omega) (by omega), h8 21 (by omega) (by omega), h8 22 (by omega) (by omega)]
    exact g4
  · have gg := fun i hi => ge fw i hi
    unfold r_wordsAt at *
    rw [show σ' w0 = σ w0 from gg 0 (by omega), gg 1 (by omega), gg 2 (by omega), gg 3 (by omega), gg 4 (by omega), gg 5 (by omega)]
    exact g5
  · unfold r_rowsAt at *
    rw [h8 15 (by omega) (by omega), h8 16 (by omega) (by omega), h8 17 (by omega) (by omega), h8 18 (by omega) (by omega), h8 19 (by omega) (by omega), h8 20 (by omega) (by omega), h8 21 (by omega) (by omega), h8 22 (by omega) (by omega)]
    exact g6
