theorem nI_m1 {n : Nat} (h : n < 2147483648) : ¬ nI n = -1 := by
  intro e
  have e2 := congrArg Int32.toInt e
  rw [nI_toInt (by omega)] at e2
  have e3 : ((-1 : Int32)).toInt = -1 := rfl
  omega
theorem opp_11 : op_11 Rel := by
  intro σ τ a0 a1 h
  by_cases c7 : a0 = 7
  · subst c7
    by_cases c : 0 ≤ a1 ∧ a1 < 91
    · have c' : 0 ≤ a1 ∧ a1 ≤ 90 := by grind
      obtain ⟨v, hv, rfl⟩ := i_of (n := 91) (by omega) c.1 c.2
      refine ⟨1, _, _, ?_, ?_, rs_limit (v := v) (by omega) (rel_told h 0)⟩
      · unfold fX10_arm fX5_tellArm; rw [if_pos rfl, wi_t c, if_neg n10]; rfl
      · unfold fX11_arm fX11_arm_32; simp only [p_nmS]; rw [ii_t (by decide), if_neg n10, if_true, ii_t c', if_neg n10]; rfl
    · have c' : ¬ (0 ≤ a1 ∧ a1 ≤ 90) := by grind
      refine ⟨0, σ, _, ?_, ?_, rel_told h 0⟩
      · unfold fX10_arm fX5_tellArm fX5_tellArm_22; rw [if_pos rfl, wi_f c, if_pos rfl, wi_f (by decide), if_pos rfl]; rfl
      · unfold fX11_arm fX11_arm_32; simp only [p_nmS]; rw [ii_t (by decide), if_neg n10, if_true, ii_f c', if_pos rfl]
  · by_cases c0 : 0 ≤ a0 ∧ a0 < 7
    · have c0' : 0 ≤ a0 ∧ a0 ≤ 7 := by grind
      by_cases c1 : 0 ≤ a1 ∧ a1 < 100
      · have c1' : 0 ≤ a1 ∧ a1 ≤ 99 := by grind
        obtain ⟨k, hk, rfl⟩ := i_of (n := 7) (by omega) c0.1 c0.2
        obtain ⟨v, hv, rfl⟩ := i_of (n := 100) (by omega) c1.1 c1.2
        refine ⟨1, _, _, ?_, ?_, rs_arm (k := k) (v := v) (by omega) (rel_told h 0)⟩
        · unfold fX10_arm fX5_tellArm fX5_tellArm_22; rw [if_neg c7, wi_t c0, if_neg n10, wi_t c1, if_neg n10, p_wrN hk (by omega)]; rfl
        · unfold fX11_arm fX11_arm_32; simp only [p_nmS]; rw [ii_t c0', if_neg n10, if_neg c7, ii_t c1', if_neg n10, if_neg c7, p_wrN hk (by omega)]
      · have c1' : ¬ (0 ≤ a1 ∧ a1 ≤ 99) := by grind
        refine ⟨0, σ, _, ?_, ?_, rel_told h 0⟩
        · unfold fX10_arm fX5_tellArm fX5_tellArm_22; rw [if_neg c7, wi_t c0, if_neg n10, wi_f c1, if_pos rfl]; rfl
        · unfold fX11_arm fX11_arm_32; simp only [p_nmS]; rw [ii_t c0', if_neg n10, if_neg c7, ii_f c1', if_pos rfl]
    · have c0' : ¬ (0 ≤ a0 ∧ a0 ≤ 7) := by grind
      refine ⟨0, σ, _, ?_, ?_, rel_told h 0⟩
      · unfold fX10_arm fX5_tellArm fX5_tellArm_22; rw [if_neg c7, wi_f c0, if_pos rfl]; rfl
      · unfold fX11_arm fX11_arm_32; simp only [p_nmS]; rw [ii_f c0', if_pos rfl]
/-- a cell of the heap as both sides find it -/
theorem cell_cases (a0 a1 a2 : Int32) : (fX10_heapCell a0 a1 a2 = -1 ∧ fX11_heapAt a0 a1 a2 = -1) ∨ ∃ k z : Nat, k < 64 ∧ z < 4 ∧ a2 = nI z ∧ fX10_heapCell a0 a1 a2 = nI (4 * k + z) ∧ fX11_heapAt a0 a1 a2 = nI (64 * z + sw k) := by
  unfold fX10_heapCell fX11_heapAt
  by_cases c0 : 0 ≤ a0 ∧ a0 < 8
  · by_cases c1 : 0 ≤ a1 ∧ a1 < 8
    · by_cases c2 : 0 ≤ a2 ∧ a2 < 4
      · right
        rw [wi_t c0, wi_t c1, wi_t c2, ii_t (show 0 ≤ a0 ∧ a0 ≤ 7 by grind), ii_t (show 0 ≤ a1 ∧ a1 ≤ 7 by grind), ii_t (show 0 ≤ a2 ∧ a2 ≤ 3 by grind)]
        simp only [if_neg n10]
        obtain ⟨x, hx, rfl⟩ := i_of (n := 8) (by omega) c0.1 c0.2
        obtain ⟨y, hy, rfl⟩ := i_of (n := 8) (by omega) c1.1 c1.2
        obtain ⟨z, hz, rfl⟩ := i_of (n := 4) (by omega) c2.1 c2.2
        refine ⟨8 * x + y, z, by omega, hz, rfl, ?_, ?_⟩
        · rw [show (8 : Int32) = nI 8 from rfl, show (4 : Int32) = nI 4 from rfl, pk_mul, nI_add, pk_mul, nI_add]
          congr 1; omega
        · rw [show (8 : Int32) = nI 8 from rfl, show (64 : Int32) = nI 64 from rfl, pk_mul, pk_mul, nI_add, nI_add]
          congr 1; unfold sw; omega
      · left
        rw [wi_t c0, wi_t c1, wi_f c2, ii_t (show 0 ≤ a0 ∧ a0 ≤ 7 by grind), ii_t (show 0 ≤ a1 ∧ a1 ≤ 7 by grind), ii_f (show ¬ (0 ≤ a2 ∧ a2 ≤ 3) by grind)]
        simp only [if_neg n10, if_pos, and_self]
    · left
      rw [wi_t c0, wi_f c1, ii_t (show 0 ≤ a0 ∧ a0 ≤ 7 by grind), ii_f (show ¬ (0 ≤ a1 ∧ a1 ≤ 7) by grind)]
      simp only [if_neg n10, if_pos, and_self]
  · left
    rw [wi_f c0, ii_f (show ¬ (0 ≤ a0 ∧ a0 ≤ 7) by grind)]
    simp only [if_pos, and_self]
theorem opp_22 : op_22 Rel := by
  intro σ τ a0 a1 a2 a3 h
  rcases cell_cases a1 a2 a3 with ⟨e1, e2⟩ | ⟨k, z, hk, hz, e0, e1, e2⟩
  · refine ⟨0, σ, _, ?_, ?_, rel_told h 0⟩
    · unfold fX10_place; rw [e1, if_pos rfl]
    · unfold fX11_place; simp only [p_nmS]
      by_cases c : 0 ≤ a0 ∧ a0 ≤ 7
      · rw [ii_t c, if_neg n10, e2, if_pos rfl]
      · rw [ii_f c, if_pos rfl]
  · have g1 : ¬ nI (4 * k + z) = -1 := nI_m1 (by omega)
    have hs : sw k < 64 := by unfold sw; omega
    have g2 : ¬ nI (64 * z + sw k) = -1 := nI_m1 (by omega)
    by_cases c : 0 ≤ a0 ∧ a0 < 8
    · have c' : 0 ≤ a0 ∧ a0 ≤ 7 := by grind
      obtain ⟨j, hj, rfl⟩ := i_of (n := 8) (by omega) c.1 c.2
      refine ⟨1, _, _, ?_, ?_, rs_place (k := j) (a := nI (4 * k + z)) (b := nI (64 * z + sw k)) ⟨k, z, hk, hz, rfl, rfl⟩ (rel_told h 0)⟩
      · unfold fX10_place fX3_tell; rw [e1, if_neg g1, wi_t c, if_neg n10, p_wrN hj (by omega), p_cb, if_neg n10]
      · unfold fX11_place; simp only [p_nmS]; rw [ii_t c', if_neg n10, e2, if_neg g2, p_wrN hj (by omega)]
    · have c' : ¬ (0 ≤ a0 ∧ a0 ≤ 7) := by grind
      refine ⟨0, σ, _, ?_, ?_, rel_told h 0⟩
      · unfold fX10_place fX3_tell; rw [e1, if_neg g1, wi_f c, if_pos rfl, p_cb, if_pos rfl]
      · unfold fX11_place; simp only [p_nmS]; rw [ii_f c', if_pos rfl]
theorem opp_26 : op_26 Rel := by
  intro σ τ a0 h
  obtain ⟨n, hn, e1, e2, hp⟩ := h.2.2.2.2.2.2.2.2.2.2.2.2.2.2.2.2.2.2.2.2.2.2.2.1
  have e3 : (st_put τ 0 0 0) 0 56 = nI n := by simp [st_put, st_row, upd, e2]
  by_cases c : 1 ≤ a0 ∧ a0 ≤ 400
  · have c1 : ¬ a0 < 1 := by grind
    have c2 : ¬ 400 < a0 := by grind
    obtain ⟨v, hv, rfl⟩ := i_of (n := 401) (by omega) (show 0 ≤ a0 by grind) (show a0 < 401 by grind)
    have hv1 : 1 ≤ v := by
      have := (nI_leI (a := 1) (b := v) (by omega) (by omega)).mp c.1
      exact this
    by_cases d : n = 6
    · subst d
      refine ⟨-1, σ, _, ?_, ?_, rel_told h 0⟩
      · unfold fX10_port; rw [if_neg c1, if_neg c2, e1, if_neg (by decide)]
      · unfold fX11_port; simp only [p_nmS]; rw [ii_t c, if_neg n10, e3, if_pos (by decide)]
    · have hn6 : n < 6 := by omega
      refine ⟨nI n + 1 - 1, _, _, ?_, ?_, rs_port (n := n) (v := v) e1 hn6 hv1 (by omega) (rel_told h 0)⟩
      · unfold fX10_port
        rw [if_neg c1, if_neg c2, e1, if_pos (show nI n < 6 from nI_lt (a := n) (b := 6) hn6 (by omega)), p_wrN (by omega) (by omega)]
        simp [p_nmS, st_put, st_row, upd, e1, nI_succ]
      · unfold fX11_port; simp only [p_nmS]
        rw [ii_t c, if_neg n10, e3, if_neg (show ¬ nI n = 6 from fun q => d ((nI_eq (b := 6) (by omega) (by omega)).mp q)), p_wrN (by omega) (by omega)]
        simp [st_put, st_row, upd, e2, nI_succ]
  · refine ⟨-1, σ, _, ?_, ?_, rel_told h 0⟩
    · unfold fX10_port
      by_cases c1 : a0 < 1
      · rw [if_pos c1]
      · rw [if_neg c1, if_pos (by grind)]
    · unfold fX11_port; simp only [p_nmS]; rw [ii_f c, if_pos rfl]
theorem opp_14 : op_14 Rel := by
  intro σ τ a0 h
  have ha := h.2.2.2.2.2.2.2.2.2.2.2.2.2.2.2.2.2.1
  by_cases c : 0 ≤ a0 ∧ a0 < 61
  · have c' : 0 ≤ a0 ∧ a0 ≤ 60 := by grind
    obtain ⟨d, hd, rfl⟩ := i_of (n := 61) (by omega) c.1 c.2
    have e10 : nI d / 10 = nI (d / 10) := pk_div (d := 10) (by omega) (by omega) (by omega)
    have hk : d / 10 < 7 := by omega
    have hw : fX10_within (nI (d / 10)) 7 = 1 := wi_t ⟨nI_pos' (by omega), nI_lt (b := 7) hk (by omega)⟩
    obtain ⟨v1, g1, g2, g3⟩ := ha (d / 10) hk
    by_cases e6 : d = 60
    · subst e6
      refine ⟨10 * σ 11 6, _, ?_, ?_, rel_told h 0⟩
      · unfold fX10_arms fX5_armTenths
        rw [wi_t c, if_neg n10, e10, hw, if_neg n10]
        simp only [p_nm]
        rw [show (if (7 - 1 : Int32) < nI (60 / 10) + 1 then (7 - 1 : Int32) else nI (60 / 10) + 1) = nI 6 from by decide, p_rdN (by omega) (by omega), p_rdN (by omega) (by omega), p_rdN (by omega) (by omega)]
        simp only [p_cq]
        congr 1
        grind
      · unfold fX11_arms fX11_armAt
        simp only [p_nmS]
        rw [ii_t c', if_neg n10, if_pos (by decide), show (6 : Int32) = nI 6 from rfl, p_rdN (by omega) (by omega)]
        simp only [p_cq]
        have : σ 11 6 = τ 27 6 := by obtain ⟨v, q1, q2, q3⟩ := ha 6 (by omega); rw [q2, q3]
        rw [this]; simp [st_put, st_row, upd]
    · have hk1 : d / 10 + 1 < 7 := by omega
      have e7 : nI (d / 10) + 1 = nI (d / 10 + 1) := (nI_succ _).symm
      have q1 : σ 11 (d / 10) = τ 27 (d / 10) := by rw [g2, g3]
      have q2 : σ 11 (d / 10 + 1) = τ 27 (d / 10 + 1) := by obtain ⟨v, a1, a2, a3⟩ := ha (d / 10 + 1) hk1; rw [a2, a3]
      refine ⟨(10 * σ 11 (d / 10)) + ((σ 11 (d / 10 + 1) - σ 11 (d / 10)) * (nI d - nI (d / 10) * 10)), _, ?_, ?_, rel_told h 0⟩
      · unfold fX10_arms fX5_armTenths
        rw [wi_t c, if_neg n10, e10, hw, if_neg n10]
        simp only [p_nm]
        rw [e7, if_neg (show ¬ (7 - 1 : Int32) < nI (d / 10 + 1) from nI_nlt (b := d / 10 + 1) (a := 6) (by omega) (by omega)), p_rdN (by omega) (by omega), p_rdN (by omega) (by omega), p_rdN (by omega) (by omega)]
        rfl
      · unfold fX11_arms fX11_armAt
        simp only [p_nmS]
        rw [ii_t c', if_neg n10, if_neg (show ¬ nI d = 60 from fun q => e6 ((nI_eq (b := 60) (by omega) (by omega)).mp q)), e10, e7, p_rdN (by omega) (by omega), p_rdN (by omega) (by omega), p_rdN (by omega) (by omega)]
        simp only [p_cq]
        rw [q1, q2]; simp [st_put, st_row, upd]
  · have c' : ¬ (0 ≤ a0 ∧ a0 ≤ 60) := by grind
    refine ⟨-1, _, ?_, ?_, rel_told h 0⟩
    · unfold fX10_arms; rw [wi_f c, if_pos rfl]
    · unfold fX11_arms; simp only [p_nmS]; rw [ii_f c', if_pos rfl]
