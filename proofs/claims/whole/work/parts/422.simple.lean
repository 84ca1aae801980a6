/-! the calls that set one thing -/
theorem wi_t {v b : Int32} (c : 0 ≤ v ∧ v < b) : fX10_within v b = 1 := by rw [within_iff, if_pos c]
theorem wi_f {v b : Int32} (c : ¬ (0 ≤ v ∧ v < b)) : fX10_within v b = 0 := by rw [within_iff, if_neg c]
theorem ii_t {v a b : Int32} (c : a ≤ v ∧ v ≤ b) : fX11_isIn v a b = 1 := by rw [isIn_iff, if_pos c]
theorem ii_f {v a b : Int32} (c : ¬ (a ≤ v ∧ v ≤ b)) : fX11_isIn v a b = 0 := by rw [isIn_iff, if_neg c]
theorem n10 : ¬ (1 : Int32) = 0 := by decide
theorem opp_0 : op_0 Rel := by
  intro σ τ a0 h
  by_cases c : 0 ≤ a0 ∧ a0 < 3
  · have c' : 0 ≤ a0 ∧ a0 ≤ 2 := by grind
    obtain ⟨v, hv, rfl⟩ := i_of (n := 3) (by omega) c.1 c.2
    refine ⟨1, _, _, ?_, ?_, rs_sort (v := v) (by omega) (rel_told h 0)⟩
    · unfold fX10_sort; rw [wi_t c, if_neg n10]; rfl
    · unfold fX11_sort; simp only [p_nmS]; rw [ii_t c', if_neg n10]
  · have c' : ¬ (0 ≤ a0 ∧ a0 ≤ 2) := by grind
    refine ⟨0, σ, _, ?_, ?_, rel_told h 0⟩
    · unfold fX10_sort; rw [wi_f c, if_pos rfl]
    · unfold fX11_sort; simp only [p_nmS]; rw [ii_f c', if_pos rfl]
theorem opp_18 : op_18 Rel := by
  intro σ τ a0 h
  by_cases c : 0 ≤ a0 ∧ a0 < 21
  · have c' : 0 ≤ a0 ∧ a0 ≤ 20 := by grind
    obtain ⟨v, hv, rfl⟩ := i_of (n := 21) (by omega) c.1 c.2
    refine ⟨1, _, _, ?_, ?_, rs_step (v := v) (by omega) (rel_told h 0)⟩
    · unfold fX10_step; rw [wi_t c, if_neg n10]; rfl
    · unfold fX11_step; simp only [p_nmS]; rw [ii_t c', if_neg n10]
  · have c' : ¬ (0 ≤ a0 ∧ a0 ≤ 20) := by grind
    refine ⟨0, σ, _, ?_, ?_, rel_told h 0⟩
    · unfold fX10_step; rw [wi_f c, if_pos rfl]
    · unfold fX11_step; simp only [p_nmS]; rw [ii_f c', if_pos rfl]
theorem opp_8 : op_8 Rel := by
  intro σ τ a0 h
  have h5 := h.2.2.2.2.1
  refine ⟨st_put τ 0 0 0, ?_, rel_told h 0⟩
  unfold fX10_fault fX11_fault
  simp only [p_nmS]
  rw [h5.1, h5.2]
  split
  · simp [st_put, st_row, upd]
  · split <;> simp [st_put, st_row, upd]
theorem opp_21 : op_21 Rel := by
  intro σ τ a0 h
  by_cases c : a0 = -1
  · subst c
    refine ⟨1, _, _, ?_, ?_, rs_said (Or.inl rfl) (rel_told h 0)⟩
    · unfold fX10_paper fX10_paper_16; rw [if_pos rfl]; rfl
    · unfold fX11_paper; simp only [p_nmS]; rw [ii_t (by decide), if_neg n10]
  · by_cases d : 0 ≤ a0 ∧ a0 < 100
    · have d' : -1 ≤ a0 ∧ a0 ≤ 99 := by grind
      obtain ⟨v, hv, rfl⟩ := i_of (n := 100) (by omega) d.1 d.2
      refine ⟨1, _, _, ?_, ?_, rs_said (Or.inr ⟨v, by omega, rfl⟩) (rel_told h 0)⟩
      · unfold fX10_paper fX10_paper_16; rw [if_neg c, wi_t d, if_neg n10]; rfl
      · unfold fX11_paper; simp only [p_nmS]; rw [ii_t d', if_neg n10]
    · have d' : ¬ (-1 ≤ a0 ∧ a0 ≤ 99) := by grind
      refine ⟨0, σ, _, ?_, ?_, rel_told h 0⟩
      · unfold fX10_paper fX10_paper_16; rw [if_neg c, wi_f d, if_pos rfl]
      · unfold fX11_paper; simp only [p_nmS]; rw [ii_f d', if_pos rfl]
theorem opp_1 : op_1 Rel := by
  intro σ τ a0 a1 a2 h
  by_cases c : (0 ≤ a0 ∧ a0 < 30) ∧ (0 ≤ a1 ∧ a1 < 10) ∧ (0 ≤ a2 ∧ a2 < 10)
  · obtain ⟨c0, c1, c2⟩ := c
    have c0' : 0 ≤ a0 ∧ a0 ≤ 29 := by grind
    have c1' : 0 ≤ a1 ∧ a1 ≤ 9 := by grind
    have c2' : 0 ≤ a2 ∧ a2 ≤ 9 := by grind
    obtain ⟨d, hd, rfl⟩ := i_of (n := 30) (by omega) c0.1 c0.2
    obtain ⟨a, ha, rfl⟩ := i_of (n := 10) (by omega) c1.1 c1.2
    obtain ⟨b, hb, rfl⟩ := i_of (n := 10) (by omega) c2.1 c2.2
    refine ⟨1, _, _, ?_, ?_, rs_sky (d := d) (a := a) (b := b) (by omega) (by omega) (rel_told h 0)⟩
    · unfold fX10_sky fX7_tell; rw [wi_t c0, wi_t c1, wi_t c2, if_neg n10, if_neg n10, if_neg n10, p_wrN hd (by omega), p_wrN hd (by omega)]; rfl
    · unfold fX11_sky; simp only [p_nmS]; rw [ii_t c0', ii_t c1', ii_t c2', if_neg n10, if_neg n10, if_neg n10, p_wrN hd (by omega), p_wrN hd (by omega)]
  · refine ⟨0, σ, _, ?_, ?_, rel_told h 0⟩
    · unfold fX10_sky fX7_tell
      by_cases c0 : 0 ≤ a0 ∧ a0 < 30
      · rw [wi_t c0, if_neg n10]
        by_cases c1 : 0 ≤ a1 ∧ a1 < 10
        · rw [wi_t c1, if_neg n10, wi_f (fun c2 => c ⟨c0, c1, c2⟩), if_pos rfl]; rfl
        · rw [wi_f c1, if_pos rfl]; rfl
      · rw [wi_f c0, if_pos rfl]; rfl
    · unfold fX11_sky; simp only [p_nmS]
      by_cases c0 : 0 ≤ a0 ∧ a0 ≤ 29
      · rw [ii_t c0, if_neg n10]
        by_cases c1 : 0 ≤ a1 ∧ a1 ≤ 9
        · rw [ii_t c1, if_neg n10, ii_f (fun c2 => c ⟨by grind, by grind, by grind⟩), if_pos rfl]
        · rw [ii_f c1, if_pos rfl]
      · rw [ii_f c0, if_pos rfl]
theorem opp_12 : op_12 Rel := by
  intro σ τ a0 h
  obtain ⟨v, hv, e1, e2⟩ := h.2.2.2.2.2.2.2.2.2.2.2.2.1
  by_cases c : v = 0
  · subst c
    refine ⟨1, _, _, ?_, ?_, rs_sail (v := a0) (rel_told h 0)⟩
    · unfold fX10_sail; rw [e1, if_pos (by decide)]; rfl
    · unfold fX11_sail; simp only [p_nmS]
      rw [if_pos (by simp [st_put, st_row, upd, e2]; rfl), show (0 : Int32) = nI 0 from rfl, p_wrN (by omega) (by omega)]
  · have hv1 : v = 1 := by omega
    subst hv1
    refine ⟨0, σ, _, ?_, ?_, rel_told h 0⟩
    · unfold fX10_sail; rw [e1, if_neg (by decide)]
    · unfold fX11_sail; simp only [p_nmS]
      rw [if_neg (by simp [st_put, st_row, upd, e2]; decide)]
theorem opp_5 : op_5 Rel := by
  intro σ τ a0 h
  obtain ⟨m, hm, e1, e2, ht⟩ := h.2.2.2.2.2.2.2.2.2.2.2.2.2.2.2.2.2.2.1
  have e3 : (st_put τ 0 0 0) 0 18 = nI m := by simp [st_put, st_row, upd, e2]
  by_cases c : 0 ≤ a0 ∧ a0 ≤ nI m
  · obtain ⟨n, hn, rfl⟩ := nI_of2 (x := a0) (M := nI m) (n := m) (nI_toInt (by omega)) (by grind) c.2
    refine ⟨1, _, _, ?_, ?_, rs_cut (n := n) ⟨m, hn, hm, e1⟩ (rel_told h 0)⟩
    · unfold fX10_end fX4_cutTo; rw [if_neg (by grind), e1, if_pos c.2]; rfl
    · unfold fX11_end; simp only [p_nmS]; rw [e3, ii_t c, if_neg n10]
  · refine ⟨0, σ, _, ?_, ?_, rel_told h 0⟩
    · unfold fX10_end fX4_cutTo
      by_cases d : a0 < 0
      · rw [if_pos d]; rfl
      · rw [if_neg d, e1, if_neg (by grind)]; rfl
    · unfold fX11_end; simp only [p_nmS]; rw [e3, ii_f c, if_pos rfl]
