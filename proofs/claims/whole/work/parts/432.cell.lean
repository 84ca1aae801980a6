theorem hold_cases (a0 a1 a2 : Int32) : fX10_holdCell a0 a1 a2 = fX11_holdAt a0 a1 a2 ∧ (fX10_holdCell a0 a1 a2 = -1 ∨ ∃ h c z : Nat, h < 4 ∧ c < 6 ∧ z < 6 ∧ a0 = nI h ∧ a1 = nI c ∧ a2 = nI z ∧ fX10_holdCell a0 a1 a2 = nI (36 * h + 6 * c + z)) := by
  unfold fX10_holdCell fX11_holdAt
  by_cases c0 : 0 ≤ a0 ∧ a0 < 4
  · by_cases c1 : 0 ≤ a1 ∧ a1 < 6
    · by_cases c2 : 0 ≤ a2 ∧ a2 < 6
      · rw [wi_t c0, wi_t c1, wi_t c2, ii_t (show 0 ≤ a0 ∧ a0 ≤ 3 by grind), ii_t (show 0 ≤ a1 ∧ a1 ≤ 5 by grind), ii_t (show 0 ≤ a2 ∧ a2 ≤ 5 by grind)]
        simp only [if_neg n10]
        obtain ⟨x, hx, rfl⟩ := i_of (n := 4) (by omega) c0.1 c0.2
        obtain ⟨y, hy, rfl⟩ := i_of (n := 6) (by omega) c1.1 c1.2
        obtain ⟨z, hz, rfl⟩ := i_of (n := 6) (by omega) c2.1 c2.2
        have e1 : (nI x * 6 + nI y) * 6 + nI z = nI (36 * x + 6 * y + z) := by
          rw [show (6 : Int32) = nI 6 from rfl, pk_mul, nI_add, pk_mul, nI_add]; congr 1; omega
        refine ⟨?_, Or.inr ⟨x, y, z, hx, hy, hz, rfl, rfl, rfl, e1⟩⟩
        rw [e1, show (6 : Int32) = nI 6 from rfl, show (36 : Int32) = nI 36 from rfl, pk_mul, pk_mul, nI_add, nI_add]
      · rw [wi_t c0, wi_t c1, wi_f c2, ii_t (show 0 ≤ a0 ∧ a0 ≤ 3 by grind), ii_t (show 0 ≤ a1 ∧ a1 ≤ 5 by grind), ii_f (show ¬ (0 ≤ a2 ∧ a2 ≤ 5) by grind)]
        simp only [if_neg n10, if_pos, true_or, and_self]
    · rw [wi_t c0, wi_f c1, ii_t (show 0 ≤ a0 ∧ a0 ≤ 3 by grind), ii_f (show ¬ (0 ≤ a1 ∧ a1 ≤ 5) by grind)]
      simp only [if_neg n10, if_pos, true_or, and_self]
  · rw [wi_f c0, ii_f (show ¬ (0 ≤ a0 ∧ a0 ≤ 3) by grind)]
    simp only [if_pos, true_or, and_self]
def rv5 (a v0 v1 v2 v3 v4 : Int32) : Int32 := if a = 0 then v0 else if a = 1 then v1 else if a = 2 then v2 else if a = 3 then v3 else if a = 4 then v4 else -1
theorem cellC_spec {σ : St} {a0 a1 a2 a3 a4 : Int32} {b j o w : Nat} (hst : fX10_stacksOf a0 = b) (hat : fX10_cellOf a0 a1 a2 a3 = nI j) (hj : j < stN b) (hs : stN b < 1000) (ho : o < 1000) (hw : w < 100000) (e1 : σ (b + 1) j = nI o) (e2 : σ (b + 2) j = nI w) : fX10_cell σ a0 a1 a2 a3 a4 = some (rv5 a4 (nI o) (nI w) (nI (wetN o w)) (σ (b + 3) j) (σ (b + 4) j)) := by
  unfold fX10_cell rv5
  rw [hat, if_neg (nI_m1 (by omega)), hst, wetAt_spec hj hs ho hw e1 e2]
  simp only [p_rdN hj (show stN b < 2147483648 by omega), p_cq, e1, e2]
  repeat' split
  all_goals rfl
theorem cellM_spec {τ : St} {x1 a4 : Int32} {j o w : Nat} {so sw_ s p : Int32} (hx : x1 = -1 → (j < 256 ∧ τ 3 j = nI o ∧ τ 4 j = nI w ∧ s = 0 ∧ p = 0)) (hy : ¬ x1 = -1 → (j < 288 ∧ τ 5 j = nI o ∧ τ 6 j = nI w ∧ s = τ 7 j ∧ p = τ 8 j ∧ (p = 0 ∨ p = 1))) (hj : j < 1000) (ho : o < 1000) (hw : w < 100000) : fX11_cell_29 τ x1 a4 (nI j) = some (rv5 a4 (nI o) (nI w) (nI (wetN o w)) s p, τ) := by
  unfold fX11_cell_29 rv5
  rw [if_neg (nI_m1 (by omega))]
  by_cases c : 0 ≤ a4 ∧ a4 ≤ 4
  · rw [ii_t c, if_neg n10]
    by_cases cx : x1 = -1
    · obtain ⟨h1, h2, h3, h4, h5⟩ := hx cx
      rw [if_pos cx, p_rdN h1 (by omega), h2]
      unfold fX11_cell_72 fX11_cell_96
      rw [if_pos cx, p_rdN h1 (by omega), h3, wetOf_spec ho hw]
      simp only [p_cq, if_pos cx]
      by_cases d0 : a4 = 0
      · rw [if_pos d0, if_pos d0]
      · rw [if_neg d0, if_neg d0]
        by_cases d1 : a4 = 1
        · rw [if_pos d1, if_pos d1]
        · rw [if_neg d1, if_neg d1]
          by_cases d2 : a4 = 2
          · rw [if_pos d2, if_pos d2]
          · rw [if_neg d2, if_neg d2]
            by_cases d3 : a4 = 3
            · rw [if_pos d3, h4]
            · rw [if_neg d3, if_pos (by grind), h5]
    · obtain ⟨h1, h2, h3, h4, h5, h6⟩ := hy cx
      rw [if_neg cx, p_rdN h1 (by omega), h2]
      unfold fX11_cell_72 fX11_cell_96
      rw [if_neg cx, p_rdN h1 (by omega), h3, wetOf_spec ho hw]
      simp only [p_cq, if_neg cx, p_rdN h1 (show 288 < 2147483648 by omega)]
      by_cases d0 : a4 = 0
      · rw [if_pos d0, if_pos d0]
      · rw [if_neg d0, if_neg d0]
        by_cases d1 : a4 = 1
        · rw [if_pos d1, if_pos d1]
        · rw [if_neg d1, if_neg d1]
          by_cases d2 : a4 = 2
          · rw [if_pos d2, if_pos d2]
          · rw [if_neg d2, if_neg d2]
            by_cases d3 : a4 = 3
            · rw [if_pos d3, if_pos d3, h4]
            · rw [if_neg d3, if_neg d3, if_pos (show a4 = 4 by grind), ← h5]
              rcases h6 with q | q <;> rw [q] <;> rfl
  · rw [ii_f c, if_pos rfl, if_neg (by grind), if_neg (by grind), if_neg (by grind), if_neg (by grind), if_neg (by grind)]
theorem stN_12 : stN 12 = 144 := rfl
theorem opp_3 : op_3 Rel := by
  intro σ τ a0 a1 a2 a3 a4 h
  have ht := rel_told h 0
  obtain ⟨hp, O, W, hr, hc⟩ := g_pile h
  obtain ⟨O', W', K', P', hr', hc'⟩ := g_holds h
  by_cases c0 : a0 = -1
  · have hst : fX10_stacksOf a0 = 5 := by unfold fX10_stacksOf; rw [if_pos c0]
    have hof : fX10_cellOf a0 a1 a2 a3 = fX10_heapCell a1 a2 a3 := by unfold fX10_cellOf; rw [if_pos c0]
    have hm : fX11_cell τ a0 a1 a2 a3 a4 = fX11_cell_29 (st_put τ 0 0 0) a0 a4 (fX11_heapAt a1 a2 a3) := by unfold fX11_cell; simp only [p_nmS]; rw [if_pos c0]
    rcases cell_cases a1 a2 a3 with ⟨e1, e2⟩ | ⟨k, z, hk, hz, e0, e1, e2⟩
    · refine ⟨-1, _, ?_, ?_, ht⟩
      · unfold fX10_cell; rw [hof, e1, if_pos rfl]
      · rw [hm, e2]; unfold fX11_cell_29; rw [if_pos rfl]
    · have hs := sw_lt hk
      obtain ⟨q1, q2, q3, q4, q5, q6⟩ := hc k z hk hz
      obtain ⟨r1, r2, r3⟩ := hr.1 k z hk hz
      refine ⟨_, _, cellC_spec (o := O k z) (w := W k z) hst (hof.trans e1) (by rw [stN_5]; omega) (by rw [stN_5]; omega) (by omega) (by omega) q1 q2, ?_, ht⟩
      rw [hm, e2]
      refine cellM_spec (so := 0) (sw_ := 0) (fun _ => ⟨by omega, by simpa [st_put, st_row] using q5, by simpa [st_put, st_row] using q6, q3, q4⟩) (fun q => absurd c0 q) (by omega) (by omega) (by omega)
  · have hst : fX10_stacksOf a0 = 12 := by unfold fX10_stacksOf; rw [if_neg c0]
    have hof : fX10_cellOf a0 a1 a2 a3 = fX10_holdCell a0 a1 a3 := by unfold fX10_cellOf; rw [if_neg c0]
    have hm : fX11_cell τ a0 a1 a2 a3 a4 = fX11_cell_29 (st_put τ 0 0 0) a0 a4 (fX11_holdAt a0 a1 a3) := by unfold fX11_cell; simp only [p_nmS]; rw [if_neg c0]
    obtain ⟨g1, g2⟩ := hold_cases a0 a1 a3
    rcases g2 with g2 | ⟨hh, cc, z, h1, h2, h3, f1, f2, f3, g2⟩
    · refine ⟨-1, _, ?_, ?_, ht⟩
      · unfold fX10_cell; rw [hof, g2, if_pos rfl]
      · rw [hm, ← g1, g2]; unfold fX11_cell_29; rw [if_pos rfl]
    · obtain ⟨q1, q2, q3, q4, q5, q6, q7, q8⟩ := hc' (36 * hh + 6 * cc + z) (by omega)
      obtain ⟨r1, r2, r3, r4, r5⟩ := hr'.1 (36 * hh + 6 * cc + z) (by omega)
      refine ⟨_, _, cellC_spec (o := O' (36 * hh + 6 * cc + z)) (w := W' (36 * hh + 6 * cc + z)) hst (hof.trans g2) (by rw [stN_12]; omega) (by rw [stN_12]; omega) (by omega) (by omega) q1 q2, ?_, ht⟩
      rw [hm, ← g1, g2]
      refine cellM_spec (so := 0) (sw_ := 0) (fun q => absurd q c0) (fun _ => ⟨by omega, by simpa [st_put, st_row] using q5, by simpa [st_put, st_row] using q6, ?_, ?_, ?_⟩) (by omega) (by omega) (by omega)
      · show σ 15 _ = _; rw [q3]; simp [st_put, st_row, q7]
      · show σ 16 _ = _; rw [q4]; simp [st_put, st_row, q8]
      · show σ 16 _ = 0 ∨ σ 16 _ = 1
        rw [q4]
        rcases (show P' (36 * hh + 6 * cc + z) = 0 ∨ P' (36 * hh + 6 * cc + z) = 1 by omega) with q | q <;> rw [q]
        · exact Or.inl rfl
        · exact Or.inr rfl
theorem opp_17 : op_17 Rel := by
  intro σ τ a0 a1 a2 h
  have ht := rel_told h 0
  obtain ⟨hp, O, W, hr, hc⟩ := g_pile h
  obtain ⟨N, hN, en1, en2⟩ := g_now h
  obtain ⟨n, hn, ec1, ec2, hcan⟩ := g_cans h
  rcases cell_cases a0 a1 a2 with ⟨e1, e2⟩ | ⟨k, z, hk, hz, e0, e1, e2⟩
  · refine ⟨-1, σ, _, ?_, ?_, ht⟩
    · unfold fX10_can; rw [e1, if_pos rfl]
    · unfold fX11_can; simp only [p_nmS]; rw [e2, if_pos rfl]
  have hs := sw_lt hk
  have g1 : ¬ nI (4 * k + z) = -1 := nI_m1 (by omega)
  have g2 : ¬ nI (64 * z + sw k) = -1 := nI_m1 (by omega)
  obtain ⟨q1, q2, q3, q4, q5, q6⟩ := hc k z hk hz
  obtain ⟨r1, r2, r3⟩ := hr.1 k z hk hz
  have t3 : ∀ j, st_put τ 0 0 0 3 j = τ 3 j := fun j => by simp [st_put, st_row]
  by_cases co : O k z = 0
  · refine ⟨-1, σ, _, ?_, ?_, ht⟩
    · unfold fX10_can; rw [e1, if_neg g1, stN_5, p_rdN (by omega) (by omega)]
      show (if σ 6 (4 * k + z) = 0 then _ else _) = _
      rw [q1, if_pos ((nI_e0 (by omega)).mpr co)]
    · unfold fX11_can; simp only [p_nmS]; rw [e2, if_neg g2, p_rdN (by omega) (by omega), t3, q5, if_pos ((nI_e0 (by omega)).mpr co)]
  have co' : ¬ nI (O k z) = 0 := fun q => co ((nI_e0 (by omega)).mp q)
  have hwt := wetAt_spec (b := 5) (σ := σ) (j := 4 * k + z) (o := O k z) (w := W k z) (by rw [stN_5]; omega) (by rw [stN_5]; omega) (by omega) (by omega) q1 q2
  by_cases cn : n = 60
  · subst cn
    refine ⟨-1, σ, _, ?_, ?_, ht⟩
    · unfold fX10_can fX0_fill; rw [e1, if_neg g1, stN_5, p_rdN (by omega) (by omega)]
      show (if σ 6 (4 * k + z) = 0 then _ else _) = _
      rw [q1, if_neg co', hwt]
      simp only [p_cq]
      rw [ec1, if_neg (by decide)]; rfl
    · unfold fX11_can; simp only [p_nmS]; rw [e2, if_neg g2, p_rdN (by omega) (by omega), t3, q5, if_neg co', if_pos (by simp [st_put, st_row, upd, ec2]; rfl)]
  have hn6 : n < 60 := by omega
  have lt6 : nI n < 60 := nI_lt (a := n) (b := 60) hn6 (by omega)
  have ne6 : ¬ nI n = 60 := fun q => cn ((nI_eq (b := 60) (by omega) (by omega)).mp q)
  refine ⟨nI n + 1 - 1, st_put (st_put (st_put (st_put σ 35 n (nI (4 * k + z))) 36 n (nI (wetN (O k z) (W k z)))) 37 n (nI N)) 34 1 (nI (n + 1)), st_put (st_put (st_put (st_put (st_put τ 0 0 0) 30 n (nI (64 * z + sw k))) 31 n (nI N)) 32 n (nI (wetN (O k z) (W k z)))) 0 48 (nI (n + 1)), ?_, ?_, ?_⟩
  · unfold fX10_can fX0_fill; rw [e1, if_neg g1, stN_5, p_rdN (by omega) (by omega)]
    show (if σ 6 (4 * k + z) = 0 then _ else _) = _
    rw [q1, if_neg co', hwt]
    simp only [p_cq]
    rw [ec1, if_pos lt6, p_wrN hn6 (by omega)]
    rw [show st_put σ 35 n (nI (4 * k + z)) 34 1 = nI n by simp [st_put, st_row, ec1], p_wrN hn6 (by omega)]
    rw [show st_put (st_put σ 35 n (nI (4 * k + z))) 36 n (nI (wetN (O k z) (W k z))) 34 1 = nI n by simp [st_put, st_row, ec1], p_wrN hn6 (by omega), en1]
    simp [p_nmS, p_cb, st_put, st_row, upd, ec1, nI_succ]
  · unfold fX11_can; simp only [p_nmS]
    rw [e2, if_neg g2, p_rdN (by omega) (by omega), t3, q5, if_neg co', show st_put τ 0 0 0 0 48 = nI n by simp [st_put, st_row, upd, ec2], if_neg ne6, p_wrN hn6 (by omega)]
    rw [show st_put (st_put τ 0 0 0) 30 n (nI (64 * z + sw k)) 0 48 = nI n by simp [st_put, st_row, upd, ec2], show st_put (st_put τ 0 0 0) 30 n (nI (64 * z + sw k)) 0 1 = nI N by simp [st_put, st_row, upd, en2], p_wrN hn6 (by omega), p_rdN (by omega) (by omega), p_rdN (by omega) (by omega)]
    rw [show st_put (st_put (st_put τ 0 0 0) 30 n (nI (64 * z + sw k))) 31 n (nI N) 3 (64 * z + sw k) = nI (O k z) by simp [st_put, st_row, q5], show st_put (st_put (st_put τ 0 0 0) 30 n (nI (64 * z + sw k))) 31 n (nI N) 4 (64 * z + sw k) = nI (W k z) by simp [st_put, st_row, q6], wetOf_spec (by omega) (by omega)]
    simp only [p_cq]
    rw [show st_put (st_put (st_put τ 0 0 0) 30 n (nI (64 * z + sw k))) 31 n (nI N) 0 48 = nI n by simp [st_put, st_row, upd, ec2], p_wrN hn6 (by omega)]
    simp [st_put, st_row, upd, ec2, nI_succ]
  · have hwet : wetN (O k z) (W k z) ≤ 9999 := by
      unfold wetN; rw [if_neg co]
      exact Nat.le_trans (Nat.div_le_self _ _) r2
    obtain ⟨h1, h2, h3, h4, h5, h6, h7, h8, h9, h10, h11, h12, h13, h14, h15, h16, h17, h18, h19, h20, h21, h22, h23, h24, h25, h26⟩ := ht
    refine ⟨by simpa [st_put, st_row, upd] using h1, by simpa [st_put, st_row, upd] using h2, by simpa [st_put, st_row, upd] using h3, by simpa [st_put, st_row, upd] using h4, by simpa [st_put, st_row, upd] using h5, by simpa [st_put, st_row, upd] using h6, by simpa [st_put, st_row, upd] using h7, by simpa [st_put, st_row, upd] using h8, by simpa [st_put, st_row, upd] using h9, by simpa [st_put, st_row, upd] using h10, by simpa [st_put, st_row, upd] using h11, by simpa [st_put, st_row, upd] using h12, by simpa [st_put, st_row, upd] using h13, by simpa [st_put, st_row, upd] using h14, by simpa [st_put, st_row, upd] using h15, by simpa [st_put, st_row, upd] using h16, by simpa [st_put, st_row, upd] using h17, by simpa [st_put, st_row, upd] using h18, by simpa [st_put, st_row, upd] using h19, by simpa [st_put, st_row, upd] using h20, r_txt_fr h21 (fun a ha => by rw [sp_ge (by omega) a ha, sp_ge (by omega) a ha, sp_ge (by omega) a ha, sp_ge (by omega) a ha]) (by simp [st_put, st_row, upd]) (by simp [st_put, st_row, upd]) (by simp [st_put, st_row, upd]) (by simp [st_put, st_row, upd]) (by simp [st_put, st_row, upd]) (fun a h1 h2 => by rw [sp_txt (by omega) a h1 h2, sp_txt (by omega) a h1 h2, sp_txt (by omega) a h1 h2, sp_txt (by omega) a h1 h2]), ⟨n + 1, by omega, by simp [st_put, st_row, upd], by simp [st_put, st_row, upd], fun i hi => ?_⟩, by simpa [st_put, st_row, upd] using h23, by simpa [st_put, st_row, upd] using h24, by simpa [st_put, st_row, upd] using h25, by simpa [st_put, st_row, upd] using h26⟩
    by_cases e : i = n
    · subst e
      refine ⟨⟨k, z, hk, hz, by simp [st_put, st_row, upd], by simp [st_put, st_row, upd]⟩, ⟨wetN (O k z) (W k z), hwet, by simp [st_put, st_row, upd], by simp [st_put, st_row, upd]⟩, N, N, Nat.le_refl _, hN, by simp [st_put, st_row, en1], by simp [st_put, st_row, upd], by simp [st_put, st_row, upd]⟩
    · simpa [st_put, st_row, upd, e] using hcan i (by omega)
