/-- WET of a cell of the heap -/
def wetN (o w : Nat) : Nat := if o = 0 then 0 else w / o
theorem wet_div {o w : Nat} (ho : o < 1000) (hw : w < 100000) (h : ¬ o = 0) : nI w / nI o = nI (wetN o w) := by
  rw [pk_div (by omega) (by omega) (by omega)]; unfold wetN; rw [if_neg h]
theorem wetAt_spec {b j o w : Nat} {σ : St} (hj : j < stN b) (hs : stN b < 1000) (ho : o < 1000) (hw : w < 100000) (e1 : σ (b + 1) j = nI o) (e2 : σ (b + 2) j = nI w) : fX8_wetAt b σ (nI j) = some (nI (wetN o w)) := by
  unfold fX8_wetAt
  rw [p_rdN hj (by omega), e1]
  by_cases c : o = 0
  · rw [if_pos ((nI_le0 (by omega)).mpr c)]; unfold wetN; rw [if_pos c]; rfl
  · rw [if_neg (fun q => c ((nI_le0 (by omega)).mp q)), p_rdN hj (by omega), p_rdN hj (by omega), e1, e2, p_nz (fun q => c ((nI_e0 (by omega)).mp q)), wet_div ho hw c]
theorem wetOf_spec {o w : Nat} (ho : o < 1000) (hw : w < 100000) : fX11_wetOf (nI o) (nI w) = some (nI (wetN o w)) := by
  unfold fX11_wetOf
  by_cases c : o = 0
  · rw [if_pos ((nI_e0 (by omega)).mpr c)]; unfold wetN; rw [if_pos c]; rfl
  · rw [if_neg (fun q => c ((nI_e0 (by omega)).mp q)), p_nz (fun q => c ((nI_e0 (by omega)).mp q)), wet_div ho hw c]
theorem rs_heap {σ τ : St} {k z o w : Nat} (hk : k < 64) (hz : z < 4) (ho : o ≤ 99) (hw : w ≤ 9999) (how : o = 0 → w = 0) {O W : Nat → Nat → Nat} (hb : 0 < o → ∀ z', z = z' + 1 → 0 < O k z') (ha : o = 0 → z < 3 → O k (z + 1) = 0) (hr : r_cells O W) (hc : ∀ k z, k < 64 → z < 4 → σ 6 (4 * k + z) = nI (O k z) ∧ σ 7 (4 * k + z) = nI (W k z) ∧ σ 8 (4 * k + z) = 0 ∧ σ 9 (4 * k + z) = 0 ∧ τ 3 (64 * z + sw k) = nI (O k z) ∧ τ 4 (64 * z + sw k) = nI (W k z)) (h : Rel σ τ) : Rel (st_put (st_put σ 6 (4 * k + z) (nI o)) 7 (4 * k + z) (nI w)) (st_put (st_put τ 3 (64 * z + sw k) (nI o)) 4 (64 * z + sw k) (nI w)) := by
  obtain ⟨h1, h2, h3, h4, h5, h6, h7, h8, h9, h10, h11, h12, h13, h14, h15, h16, h17, h18, h19, h20, h21, h22, h23, h24, h25, h26⟩ := h
  refine ⟨by simpa [st_put, st_row, upd] using h1, by simpa [st_put, st_row, upd] using h2, by simpa [st_put, st_row, upd] using h3, by simpa [st_put, st_row, upd] using h4, by simpa [st_put, st_row, upd] using h5, by simpa [st_put, st_row, upd] using h6, ?_, by simpa [st_put, st_row, upd] using h8, by simpa [st_put, st_row, upd] using h9, by simpa [st_put, st_row, upd] using h10, by simpa [st_put, st_row, upd] using h11, by simpa [st_put, st_row, upd] using h12, by simpa [st_put, st_row, upd] using h13, by simpa [st_put, st_row, upd] using h14, by simpa [st_put, st_row, upd] using h15, by simpa [st_put, st_row, upd] using h16, by simpa [st_put, st_row, upd] using h17, by simpa [st_put, st_row, upd] using h18, by simpa [st_put, st_row, upd] using h19, by simpa [st_put, st_row, upd] using h20, r_txt_fr h21 (fun a ha => by rw [sp_ge (by omega) a ha, sp_ge (by omega) a ha]) (by simp [st_put, st_row, upd]) (by simp [st_put, st_row, upd]) (by simp [st_put, st_row, upd]) (by simp [st_put, st_row, upd]) (by simp [st_put, st_row, upd]) (fun a h1 h2 => by rw [sp_txt (by omega) a h1 h2, sp_txt (by omega) a h1 h2]), by simpa [st_put, st_row, upd] using h22, by simpa [st_put, st_row, upd] using h23, by simpa [st_put, st_row, upd] using h24, by simpa [st_put, st_row, upd] using h25, by simpa [st_put, st_row, upd] using h26⟩
  refine ⟨by simpa [st_put, st_row, upd] using h7.1, fun a b => if a = k ∧ b = z then o else O a b, fun a b => if a = k ∧ b = z then w else W a b, ⟨fun a b ha' hb' => ?_, fun a b ha' hb' e => ?_⟩, fun a b ha' hb' => ?_⟩
  · by_cases e : a = k ∧ b = z
    · simp only [if_pos e]; exact ⟨ho, hw, how⟩
    · simp only [if_neg e]; exact hr.1 a b ha' hb'
  · show (if a = k ∧ b + 1 = z then o else O a (b + 1)) = 0
    by_cases e1 : a = k ∧ b = z
    · simp only [if_pos e1] at e
      obtain ⟨rfl, rfl⟩ := e1
      rw [if_neg (by omega)]
      exact ha e hb'
    · simp only [if_neg e1] at e
      by_cases e2 : a = k ∧ b + 1 = z
      · rw [if_pos e2]
        obtain ⟨rfl, e2⟩ := e2
        rcases Nat.eq_zero_or_pos o with q | q
        · exact q
        · have := hb q b e2.symm; omega
      · rw [if_neg e2]; exact hr.2 a b ha' hb' e
  · obtain ⟨q1, q2, q3, q4, q5, q6⟩ := hc a b ha' hb'
    by_cases e : a = k ∧ b = z
    · simp only [if_pos e]
      obtain ⟨rfl, rfl⟩ := e
      refine ⟨?_, ?_, ?_, ?_, ?_, ?_⟩ <;> simp [st_put, st_row, upd, q3, q4]
    · have n1 : ¬ 4 * a + b = 4 * k + z := fun q => e (by omega)
      have n2 : ¬ 64 * b + sw a = 64 * z + sw k := fun q => by
        have s1 := sw_lt ha'
        have s2 := sw_lt hk
        have : b = z := by omega
        subst this
        exact e ⟨sw_inj ha' hk (by omega), rfl⟩
      simp only [if_neg e]
      refine ⟨?_, ?_, ?_, ?_, ?_, ?_⟩
      · simpa [st_put, st_row, upd, n1] using q1
      · simpa [st_put, st_row, upd, n1] using q2
      · simpa [st_put, st_row, upd, n1] using q3
      · simpa [st_put, st_row, upd, n1] using q4
      · simpa [st_put, st_row, upd, n2] using q5
      · simpa [st_put, st_row, upd, n2] using q6
theorem heap79_ok {σ : St} {j : Nat} {o w : Int32} (hj : j < 256) : fX10_heap_79 σ o w (nI j) = some (1, st_put (st_put σ 6 j o) 7 j w) := by
  unfold fX10_heap_79
  rw [stN_5, p_wrN hj (by omega), p_wrN hj (by omega)]
theorem heap104_ok {τ : St} {j : Nat} {o w : Int32} (hj : j < 256) : fX11_heap_104 τ o w (nI j) = some (1, st_put (st_put τ 3 j o) 4 j w) := by
  unfold fX11_heap_104
  rw [p_wrN hj (by omega), p_wrN hj (by omega)]
theorem opp_2 : op_2 Rel := by
  intro σ τ a0 a1 a2 a3 a4 h
  have ht := rel_told h 0
  obtain ⟨hp, O, W, hr, hc⟩ := g_pile h
  rcases cell_cases a0 a1 a2 with ⟨e1, e2⟩ | ⟨k, z, hk, hz, e0, e1, e2⟩
  · refine ⟨0, σ, _, ?_, ?_, ht⟩
    · unfold fX10_heap; rw [e1, if_pos rfl]
    · unfold fX11_heap; simp only [p_nmS]; rw [e2, if_pos rfl]
  have hs := sw_lt hk
  have g1 : ¬ nI (4 * k + z) = -1 := nI_m1 (by omega)
  have g2 : ¬ nI (64 * z + sw k) = -1 := nI_m1 (by omega)
  by_cases c3 : 0 ≤ a3 ∧ a3 < 100
  rotate_left
  · refine ⟨0, σ, _, ?_, ?_, ht⟩
    · unfold fX10_heap; rw [e1, if_neg g1, wi_f c3, if_pos rfl]
    · unfold fX11_heap; simp only [p_nmS]; rw [e2, if_neg g2, ii_f (by grind), if_pos rfl]
  by_cases c4 : 0 ≤ a4 ∧ a4 < 10000
  rotate_left
  · refine ⟨0, σ, _, ?_, ?_, ht⟩
    · unfold fX10_heap; rw [e1, if_neg g1, wi_t c3, if_neg n10, wi_f c4, if_pos rfl]
    · unfold fX11_heap; simp only [p_nmS]; rw [e2, if_neg g2, ii_t (by grind), if_neg n10, ii_f (by grind), if_pos rfl]
  have c3' : 0 ≤ a3 ∧ a3 ≤ 99 := by grind
  have c4' : 0 ≤ a4 ∧ a4 ≤ 9999 := by grind
  obtain ⟨o, ho, rfl⟩ := i_of (n := 100) (by omega) c3.1 c3.2
  obtain ⟨w, hw, rfl⟩ := i_of (n := 10000) (by omega) c4.1 c4.2
  subst e0
  -- the class
  have hh := pile_height (τ := τ) hp hr (fun k z hk hz => (hc k z hk hz).1) hk
  have ed : nI (4 * k + z) / 4 = nI k := by
    rw [show (4 : Int32) = nI 4 from rfl, pk_div (by omega) (by omega) (by omega)]; congr 1; omega
  have top := topN_iff (O := O k) (n := 4) (fun q hq e => hr.2 k q hk (by omega) e)
  have tle := topN_le (O k) 4
  have EC : fX10_heap σ a0 a1 (nI z) (nI o) (nI w) = if o = 0 then (if 0 < w then some (0, σ) else if topN (O k) 4 ≤ z + 1 then some (1, st_put (st_put σ 6 (4 * k + z) (nI o)) 7 (4 * k + z) (nI w)) else some (0, σ)) else if z ≤ topN (O k) 4 then some (1, st_put (st_put σ 6 (4 * k + z) (nI o)) 7 (4 * k + z) (nI w)) else some (0, σ) := by
    unfold fX10_heap
    rw [e1, if_neg g1, wi_t c3, if_neg n10, wi_t c4, if_neg n10, ed, hh]
    simp only [p_cq]
    rw [heap79_ok (by omega), show nI z + 1 = nI (z + 1) from (nI_succ z).symm]
    simp only [nI_le0 (show o < 2147483648 by omega), nI_0lt (show w < 2147483648 by omega), nI_leI (show topN (O k) 4 < 2 ^ 31 by omega) (show z + 1 < 2 ^ 31 by omega), nI_leI (show z < 2 ^ 31 by omega) (show topN (O k) 4 < 2 ^ 31 by omega)]
  have tm : ∀ j, st_put τ 0 0 0 3 j = τ 3 j := fun j => by simp [st_put, st_row]
  have EM : fX11_heap τ a0 a1 (nI z) (nI o) (nI w) = if (o = 0 ∧ 0 < w) ∨ (0 < o ∧ 0 < z ∧ O k (z - 1) = 0) ∨ (o = 0 ∧ z < 3 ∧ 0 < O k (z + 1)) then some (0, st_put τ 0 0 0) else some (1, st_put (st_put (st_put τ 0 0 0) 3 (64 * z + sw k) (nI o)) 4 (64 * z + sw k) (nI w)) := by
    unfold fX11_heap fX11_heap_57 fX11_heap_79
    simp only [p_nmS]
    rw [e2, if_neg g2, ii_t c3', if_neg n10, ii_t c4', if_neg n10, heap104_ok (by omega)]
    simp only [nI_le0 (show o < 2147483648 by omega), nI_le0 (show w < 2147483648 by omega), nI_le0 (show z < 2147483648 by omega), nI_e0 (show o < 2147483648 by omega), show (3 : Int32) = nI 3 from rfl, nI_leI (show 3 < 2 ^ 31 by omega) (show z < 2 ^ 31 by omega)]
    by_cases co : o = 0
    · simp only [if_pos co]
      by_cases cw : w = 0
      · rw [if_pos cw]
        by_cases cz : 3 ≤ z
        · rw [if_pos cz, if_neg (by omega)]
        · rw [if_neg cz, show (64 : Int32) = nI 64 from rfl, nI_add, p_rdN (by omega) (by omega), tm, show 64 * z + sw k + 64 = 64 * (z + 1) + sw k by omega, (hc k (z + 1) hk (by omega)).2.2.2.2.1]
          have := (hr.1 k (z + 1) hk (by omega)).1
          by_cases ca : O k (z + 1) = 0
          · rw [if_pos ((nI_le0 (by omega)).mpr ca), if_neg (by omega)]
          · rw [if_neg (fun q => ca ((nI_le0 (by omega)).mp q)), if_pos (by omega)]
      · rw [if_neg cw, if_pos (Or.inl ⟨co, by omega⟩)]
    · simp only [if_neg co]
      by_cases cz : z = 0
      · rw [if_pos cz, if_neg (by omega)]
      · rw [if_neg cz]
        obtain ⟨z', rfl⟩ : ∃ z', z = z' + 1 := ⟨z - 1, by omega⟩
        rw [show (64 : Int32) = nI 64 from rfl, pk_sub (by omega), p_rdN (by omega) (by omega), tm, show 64 * (z' + 1) + sw k - 64 = 64 * z' + sw k by omega, (hc k z' hk (by omega)).2.2.2.2.1]
        have := (hr.1 k z' hk (by omega)).1
        simp only [nI_e0 (show O k z' < 2147483648 by omega)]
        by_cases cb : O k z' = 0
        · rw [if_pos cb, if_pos (Or.inr (Or.inl ⟨by omega, by omega, by simpa using cb⟩))]
        · rw [if_neg cb, if_neg]
          rintro (q | ⟨_, _, q2⟩ | q)
          · omega
          · exact cb (by simpa using q2)
          · omega
  by_cases cc : (o = 0 ∧ 0 < w) ∨ (0 < o ∧ 0 < z ∧ O k (z - 1) = 0) ∨ (o = 0 ∧ z < 3 ∧ 0 < O k (z + 1))
  · refine ⟨0, σ, _, ?_, by rw [EM, if_pos cc], ht⟩
    rw [EC]
    rcases cc with ⟨q1, q2⟩ | ⟨q1, q2, q3⟩ | ⟨q1, q2, q3⟩
    · rw [if_pos q1, if_pos q2]
    · rw [if_neg (by omega), if_neg]
      intro q
      have := (top (z - 1) (by omega)).mp (by omega)
      omega
    · rw [if_pos q1]
      split
      · rfl
      · rw [if_neg]
        intro q
        have := (top (z + 1) (by omega)).mpr q3
        omega
  · refine ⟨1, _, _, ?_, by rw [EM, if_neg cc], rs_heap (k := k) (z := z) (o := o) (w := w) (O := O) (W := W) hk hz (by omega) (by omega) (fun e => ?_) (fun e z' ez => ?_) (fun e hz3 => ?_) hr (fun k z hk hz => ?_) ht⟩
    · rw [EC]
      by_cases co : o = 0
      · rw [if_pos co, if_neg (fun q => cc (Or.inl ⟨co, q⟩)), if_pos]
        rcases Nat.lt_or_ge (z + 1) (topN (O k) 4) with q | q
        · have := (top (z + 1) (by omega)).mp q
          exact absurd (Or.inr (Or.inr ⟨co, by omega, this⟩)) cc
        · exact q
      · rw [if_neg co, if_pos]
        rcases Nat.lt_or_ge (topN (O k) 4) z with q | q
        · obtain ⟨z', rfl⟩ : ∃ z', z = z' + 1 := ⟨z - 1, by omega⟩
          rcases Nat.eq_zero_or_pos (O k z') with e | e
          · exact absurd (Or.inr (Or.inl ⟨by omega, by omega, by simpa using e⟩)) cc
          · have := (top z' (by omega)).mpr e; omega
        · exact q
    · rcases Nat.eq_zero_or_pos w with q | q
      · exact q
      · exact absurd (Or.inl ⟨e, q⟩) cc
    · rcases Nat.eq_zero_or_pos (O k z') with q | q
      · exact absurd (Or.inr (Or.inl ⟨e, by omega, by rw [ez]; simpa using q⟩)) cc
      · exact q
    · rcases Nat.eq_zero_or_pos (O k (z + 1)) with q | q
      · exact q
      · exact absurd (Or.inr (Or.inr ⟨e, hz3, q⟩)) cc
    · obtain ⟨q1, q2, q3, q4, q5, q6⟩ := hc k z hk hz
      exact ⟨q1, q2, q3, q4, by simpa [st_put, st_row, upd] using q5, by simpa [st_put, st_row, upd] using q6⟩
