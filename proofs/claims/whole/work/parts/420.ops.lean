theorem i_of {x : Int32} {n : Nat} (hn : n < 2147483648) (h0 : 0 ≤ x) (h : x < nI n) : ∃ v : Nat, v < n ∧ x = nI v := by
  obtain ⟨j, hj, rfl⟩ := nI_of (x := x) (by grind)
  exact ⟨j, (nI_ltI hj hn).mp h, rfl⟩
theorem r_txt_fr {σ σ' τ τ' : St} (h : r_txt σ τ) (h1 : ∀ a, 44 ≤ a → σ' a = σ a) (h2 : σ' 24 7 = σ 24 7) (h3 : σ' 28 0 = σ 28 0) (h4 : σ' 30 = σ 30) (h6 : σ' 31 = σ 31) (h7 : σ' 32 = σ 32) (h8 : ∀ a, 15 ≤ a → a ≤ 22 → τ' a = τ a) : r_txt σ' τ' := by
  obtain ⟨P, Q, x, y, w, fx, fy, fw, n1, n2, n3, e1, e2, e3, g1, g2, g3, g4, g5, g6, g7⟩ := h
  have ge : ∀ {b : Nat}, fW b → 44 ≤ b := by intro b hb; rcases hb with rfl | rfl | rfl <;> omega
  have gy := ge fy
  have gww := ge fw
  refine ⟨P, Q, x, y, w, fx, fy, fw, n1, n2, n3, by rw [h2]; exact e1, by rw [h3]; exact e2, by rw [h4]; exact e3, g1, g2, ?_, ?_, ?_, ?_, by rw [h4, h6, h7]; exact g7⟩
  · unfold r_wordsAt at *
    rw [h1 y gy, h1 (y + 1) (by omega), h1 (y + 2) (by omega), h1 (y + 3) (by omega), h1 (y + 4) (by omega), h1 (y + 5) (by omega)]
    exact g3
  · unfold r_rowsAt at *
    rw [h8 15 (by omega) (by omega), h8 16 (by omega) (by omega), h8 17 (by omega) (by omega), h8 18 (by omega) (by omega), h8 19 (by omega) (by omega), h8 20 (by omega) (by omega), h8 21 (by omega) (by omega), h8 22 (by omega) (by omega)]
    exact g4
  · unfold r_wordsAt at *
    rw [h1 w gww, h1 (w + 1) (by omega), h1 (w + 2) (by omega), h1 (w + 3) (by omega), h1 (w + 4) (by omega), h1 (w + 5) (by omega)]
    exact g5
  · unfold r_rowsAt at *
    rw [h8 15 (by omega) (by omega), h8 16 (by omega) (by omega), h8 17 (by omega) (by omega), h8 18 (by omega) (by omega), h8 19 (by omega) (by omega), h8 20 (by omega) (by omega), h8 21 (by omega) (by omega), h8 22 (by omega) (by omega)]
    exact g6
/-- a state that a method changes at one place -/
theorem sp_ge {σ : St} {k i : Nat} {v : Int32} (hk : k < 44) : ∀ a, 44 ≤ a → st_put σ k i v a = σ a := fun a ha => sp_ne (by omega)
theorem sp_txt {τ : St} {k i : Nat} {v : Int32} (hk : k < 15 ∨ 22 < k) : ∀ a, 15 ≤ a → a ≤ 22 → st_put τ k i v a = τ a := fun a h1 h2 => sp_ne (by omega)
theorem rel_told {σ τ : St} (h : Rel σ τ) (v : Int32) : Rel σ (st_put τ 0 0 v) := by
  obtain ⟨h1, h2, h3, h4, h5, h6, h7, h8, h9, h10, h11, h12, h13, h14, h15, h16, h17, h18, h19, h20, h21, h22, h23, h24, h25, h26⟩ := h
  refine ⟨by simpa [st_put, st_row, upd] using h1, by simpa [st_put, st_row, upd] using h2, by simpa [st_put, st_row, upd] using h3, by simpa [st_put, st_row, upd] using h4, by simpa [st_put, st_row, upd] using h5, by simpa [st_put, st_row, upd] using h6, by simpa [st_put, st_row, upd] using h7, by simpa [st_put, st_row, upd] using h8, by simpa [st_put, st_row, upd] using h9, by simpa [st_put, st_row, upd] using h10, by simpa [st_put, st_row, upd] using h11, by simpa [st_put, st_row, upd] using h12, by simpa [st_put, st_row, upd] using h13, by simpa [st_put, st_row, upd] using h14, by simpa [st_put, st_row, upd] using h15, by simpa [st_put, st_row, upd] using h16, by simpa [st_put, st_row, upd] using h17, by simpa [st_put, st_row, upd] using h18, by simpa [st_put, st_row, upd] using h19, by simpa [st_put, st_row, upd] using h20, r_txt_fr h21 (fun _ _ => rfl) rfl rfl rfl rfl rfl (sp_txt (by omega)), by simpa [st_put, st_row, upd] using h22, by simpa [st_put, st_row, upd] using h23, by simpa [st_put, st_row, upd] using h24, by simpa [st_put, st_row, upd] using h25, by simpa [st_put, st_row, upd] using h26⟩
