/-! told -/
theorem told_common {σ τ : St} (h : Rel σ τ) : ∃ (N sort rain y : Nat) (P : Pg) (σ1 : St), N < 720 ∧ σ 0 12 = nI N ∧ τ 0 1 = nI N ∧ τ 0 2 = nI sort ∧ τ 1 (N / 24) = nI rain ∧ fW y ∧ lawsC σ1 y P ∧ lawsM τ P ∧ fX7_rainAt σ (nI N) = some (nI rain) ∧ fX2_setTime σ (nI rain) (nI N - nI N / 24 * 24) = some σ1 ∧ sameX 29 σ σ1 ∧ timeC σ1 sort rain (N % 24) := by
  obtain ⟨N, hN, en1, en2⟩ := g_now h
  obtain ⟨so, hs, es1, es2⟩ := g_sort h
  obtain ⟨⟨rn, hr, er1, er2⟩, _⟩ := g_sky h (N / 24) (by omega)
  obtain ⟨y, P, hl, hm⟩ := g_laws h
  obtain ⟨σ1, t1, t2, t3⟩ := setTime_C (σ := σ) (sort := so) (rain := rn) (clock := N % 24) es1
  have rm : nI N - nI N / 24 * 24 = nI (N % 24) := pk_rem (d := 24) (by omega) (by omega) (by omega)
  refine ⟨N, so, rn, y, P, σ1, by omega, en1, en2, es2, er2, hl.1, ?_, hm, rain_C (by omega) er1, by rw [rm]; exact t1, t2, t3⟩
  exact lawsC_fr hl (t2 28 (by omega)) (fun a ha hb => t2 a (by have := fW_ge hl.1; omega))
theorem lawOf_M2 {τ τ' : St} {h : Nat} {P : Pg} {env : Nat → Int32} (hl : lawsM τ P) (hh : h < 4) (hs : sameX 24 τ τ') (he : ∀ j, j < 9 → τ' 24 j = env j) : ∃ τ2, fX11_lawOf τ' (nI h) = some (lawV env h P, τ2) ∧ same2 24 25 τ τ2 := by
  obtain ⟨τ2, e1, e2⟩ := lawOf_M (lawsM_fr hl (fun a h1 h2 => hs a (by omega))) hh he
  exact ⟨τ2, e1, fun a h1 h2 => by rw [e2 a h2, hs a h1]⟩
theorem opp_15 : op_15 Rel := by
  intro σ τ0 a0 a1 a2 a3 a4 h0
  have h := rel_told h0 0
  generalize hτ : st_put τ0 0 0 0 = τ at h
  unfold fX10_told fX11_told
  rw [p_nmS, hτ]
  unfold fX10_cellOf
  by_cases c0 : ¬ (0 ≤ a0 ∧ a0 < 4)
  · rw [wi_f c0]
    refine ⟨-1000000, σ, τ, ?_, ?_, h⟩
    · split <;> split <;> rfl
    · unfold fX11_told_30
      rw [ii_f (show ¬ (0 ≤ a0 ∧ a0 ≤ 3) by grind)]
      split <;> split <;> rfl
  have c0 := Decidable.not_not.mp c0
  rw [wi_t c0, if_neg n10]
  have ii := ii_t (show 0 ≤ a0 ∧ a0 ≤ 3 by grind)
  obtain ⟨hd, hh, rfl⟩ := i_of (n := 4) (by omega) c0.1 c0.2
  obtain ⟨N, so, rn, y, P, σ1, hN, en1, en2, es2, er2, fy, l1, hm, rc, t1, t2, t3⟩ := told_common h
  have relf : ∀ σ2 τ2, same2 29 (y + 6) σ1 σ2 → same2 24 25 τ τ2 → Rel σ2 τ2 := fun σ2 τ2 q1 q2 => rel_law fy h (fun a ha hb => by rw [q1 a ha hb, t2 a ha]) q2
  by_cases c1 : a1 = -1
  · rw [if_pos c1, if_pos c1]
    unfold fX11_told_30
    rcases cell_cases a2 a3 a4 with ⟨e1, e2⟩ | ⟨k, z, hk, hz, rfl, e1, e2⟩
    · rw [e1, e2, if_pos rfl, if_pos rfl]
      exact ⟨_, _, _, rfl, rfl, h⟩
    have hsw := sw_lt hk
    rw [e1, e2, if_neg (nI_m1 (by omega)), if_neg (nI_m1 (by omega)), ii, if_neg n10, if_pos c1]
    obtain ⟨hp, O, W, hr, hc⟩ := g_pile h
    obtain ⟨q1, q2, q3, q4, q5, q6⟩ := hc k z hk hz
    obtain ⟨r1, r2, r3⟩ := hr.1 k z hk hz
    obtain ⟨σ2, u1, u2, u3⟩ := heapLaw_C (y := y) (h := hd) (k := k) (z := z) (σ := σ1) (P := P) (O := O k) (w := W k z) (sort := so) (rain := rn) (clock := N % 24) (by rw [t2 5 (by omega)]; exact hp) l1 hh t3 (by omega) hk hz (fun z hz => ⟨(hr.1 k z hk hz).1, by rw [t2 6 (by omega)]; exact (hc k z hk hz).1⟩) r2 (by rw [t2 7 (by omega)]; exact q2) (by rw [t2 8 (by omega)]; exact q3)
    rw [en1, rc, p_cq, t1, p_cv, show fX10_stacksOf a1 = 5 by unfold fX10_stacksOf; rw [if_pos c1], u1, p_cb, p_rdN (by omega) (by omega), q5]
    unfold fX11_told_74 fX11_told_103
    by_cases co : O k z = 0
    · rw [if_pos co, if_pos ((nI_e0 (by omega)).mpr co)]
      exact ⟨_, _, _, rfl, rfl, relf _ _ u2 (same2_r _ _ _)⟩
    rw [if_neg co, if_neg (fun q => co ((nI_e0 (by omega)).mp q)), if_pos c1]
    obtain ⟨τ1, v1, v2, v3⟩ := takesHeap_M (τ := τ) (k := k) (z := z) (w := W k z) (N := N) (sort := so) (rain := rn) (O := O k) hk hz r2 hN en2 es2 er2 (fun z hz => ⟨(hr.1 k z hk hz).1, (hc k z hk hz).2.2.2.2.1⟩) (fun z hz => hr.2 k z hk (by omega)) q6
    obtain ⟨τ2, w1, w2⟩ := lawOf_M2 hm hh v2 v3
    rw [v1, p_cv, w1, p_cb]
    exact ⟨_, _, _, rfl, rfl, relf _ _ u2 w2⟩
  · rw [if_neg c1, if_neg c1]
    unfold fX11_told_30
    obtain ⟨e1, e2⟩ := hold_cases a1 a2 a4
    rw [← e1]
    rcases e2 with e2 | ⟨hd', c, z, hh', hc', hz, rfl, rfl, rfl, e2⟩
    · rw [e2, if_pos rfl, if_pos rfl]
      exact ⟨_, _, _, rfl, rfl, h⟩
    rw [e2, if_neg (nI_m1 (by omega)), if_neg (nI_m1 (by omega)), ii, if_neg n10, if_neg c1]
    obtain ⟨O, W, K, Q, hr, hc⟩ := g_holds h
    generalize hj : 36 * hd' + 6 * c + z = j
    have hj' : j < 144 := by omega
    obtain ⟨q1, q2, q3, q4, q5, q6, q7, q8⟩ := hc j hj'
    obtain ⟨r1, r2, r3, r4, r5⟩ := hr.1 j hj'
    obtain ⟨σ2, u1, u2, u3⟩ := shipLaw_C (b := 12) (y := y) (h := hd) (j := j) (σ := σ1) (P := P) (o := O j) (w := W j) (k := K j) (sort := so) (rain := rn) (clock := N % 24) (Or.inl rfl) (by rw [t2 12 (by omega)]; exact g_stk h) l1 hh t3 hj' r1 r2 (by rw [t2 (12 + 1) (by omega)]; exact q1) (by rw [t2 (12 + 2) (by omega)]; exact q2) (by rw [t2 (12 + 3) (by omega)]; exact q3)
    rw [en1, rc, p_cq, t1, p_cv, show fX10_stacksOf (nI hd') = 12 by unfold fX10_stacksOf; rw [if_neg c1], u1, p_cb, p_rdN (by omega) (by omega), q5]
    unfold fX11_told_74 fX11_told_103
    by_cases co : O j = 0
    · rw [if_pos co, if_pos ((nI_e0 (by omega)).mpr co)]
      exact ⟨_, _, _, rfl, rfl, relf _ _ u2 (same2_r _ _ _)⟩
    rw [if_neg co, if_neg (fun q => co ((nI_e0 (by omega)).mp q)), if_neg c1, en2]
    obtain ⟨τ1, v1, v2, v3⟩ := takesShip_M (τ := τ) (c := j) (o := O j) (w := W j) (k := K j) (t := N) (sort := so) (rain := rn) (by omega) r1 r2 hN es2 er2 q5 q6 q7
    obtain ⟨τ2, w1, w2⟩ := lawOf_M2 hm hh v2 v3
    rw [v1, p_cv, w1, p_cb]
    exact ⟨_, _, _, rfl, rfl, relf _ _ u2 w2⟩
