/-! what the heap and the ship may change -/
def chC (a : Nat) : Bool := (5 ≤ a && a ≤ 10) || (12 ≤ a && a ≤ 23) || a == 26 || a == 27 || a == 29 || a == 33 || a == 40 || a == 50 || a == 57 || a == 64
def chM (a : Nat) : Bool := a == 0 || (3 ≤ a && a ≤ 12) || (24 ≤ a && a ≤ 26) || a == 28 || a == 34
theorem r_txt_fr2 {σ σ' τ τ' : St} (h : r_txt σ τ) (h1 : ∀ a, 44 ≤ a → ¬ a = 50 → ¬ a = 57 → ¬ a = 64 → σ' a = σ a) (h2 : σ' 24 7 = σ 24 7) (h3 : σ' 28 0 = σ 28 0) (h4 : σ' 30 = σ 30) (h6 : σ' 31 = σ 31) (h7 : σ' 32 = σ 32) (h8 : ∀ a, 15 ≤ a → a ≤ 22 → τ' a = τ a) : r_txt σ' τ' := by
  obtain ⟨P, Q, x, y, w, fx, fy, fw, n1, n2, n3, e1, e2, e3, g1, g2, g3, g4, g5, g6, g7⟩ := h
  have ge : ∀ {b : Nat}, fW b → ∀ i, i ≤ 5 → σ' (b + i) = σ (b + i) := by
    intro b hb i hi
    refine h1 _ ?_ ?_ ?_ ?_ <;> rcases hb with rfl | rfl | rfl <;> omega
  refine ⟨P, Q, x, y, w, fx, fy, fw, n1, n2, n3, by rw [h2]; exact e1, by rw [h3]; exact e2, by rw [h4]; exact e3, g1, g2, ?_, ?_, ?_, ?_, by rw [h4, h6, h7]; exact g7⟩
  · have gg := fun i hi => ge fy i hi
    unfold r_wordsAt at *
    rw [show σ' y = σ y from gg 0 (by omega), gg 1 (by omega), gg 2 (by omega), gg 3 (by omega), gg 4 (by omega), gg 5 (by omega)]
    exact g3
  · unfold r_rowsAt at *
    rw [h8 15 (by omega) (by omega), h8 16 (by omega) (by omega), h8 17 (by omega) (by omega), h8 18 (by omega) (by omega), h8 19 (by omega) (by omega), h8 20 (by omega) (by omega), h8 21 (by omega) (by omega), h8 22 (by omega) (by omega)]
    exact g4
  · have gg := fun i hi => ge fw i hi
    unfold r_wordsAt at *
    rw [show σ' w = σ w from gg 0 (by omega), gg 1 (by omega), gg 2 (by omega), gg 3 (by omega), gg 4 (by omega), gg 5 (by omega)]
    exact g5
  · unfold r_rowsAt at *
    rw [h8 15 (by omega) (by omega), h8 16 (by omega) (by omega), h8 17 (by omega) (by omega), h8 18 (by omega) (by omega), h8 19 (by omega) (by omega), h8 20 (by omega) (by omega), h8 21 (by omega) (by omega), h8 22 (by omega) (by omega)]
    exact g6
theorem rel_body {σ σ' τ τ' : St} (h : Rel σ τ) (hC : ∀ a, chC a = false → σ' a = σ a) (hM : ∀ a, chM a = false → τ' a = τ a) (hM0 : ∀ j, ¬ j = 11 → τ' 0 j = τ 0 j)
    (b1 : r_pile (σ' 5) (σ' 6) (σ' 7) (σ' 8) (σ' 9) (τ' 3) (τ' 4)) (b2 : σ' 5 7 = τ' 0 11) (b3 : r_stk (σ' 12)) (b4 : r_stk (σ' 19)) (b5 : r_holds (σ' 13) (σ' 14) (σ' 15) (σ' 16) (τ' 5) (τ' 6) (τ' 7) (τ' 8)) (b6 : σ' 12 7 = τ' 9 0) (b7 : r_up 1 (σ' 10 3) (τ' 0 13)) (b8 : σ' 10 4 = τ' 10 0) (b9 : σ' 10 5 = τ' 11 0) (b10 : r_gone (σ' 10 6) (τ' 12 0)) (b11 : r_up 90 (σ' 10 2) (τ' 0 45)) : Rel σ' τ' := by
  obtain ⟨h1, h2, h3, h4, h5, h6, h7, h8, h9, h10, h11, h12, h13, h14, h15, h16, h17, h18, h19, h20, h21, h22, h23, h24, h25, h26⟩ := h
  refine ⟨?_, ?_, ?_, ?_, ?_, ?_, b1, b2, b3, b4, b5, b6, b7, b8, b9, b10, b11, ?_, ?_, ?_, ?_, ?_, ?_, ?_, ?_, ?_⟩
  · rw [hC 0 rfl, hM0 1 (by omega)]; exact h1
  · rw [hC 28 rfl, hM0 2 (by omega)]; exact h2
  · rw [hC 0 rfl, hM0 53 (by omega)]; exact h3
  · rw [hC 34 rfl, hM0 52 (by omega)]; exact h4
  · rw [hC 24 rfl, hM0 39 (by omega), hM0 40 (by omega)]; exact h5
  · rw [hC 3 rfl, hC 4 rfl, hM 1 rfl, hM 2 rfl]; exact h6
  · rw [hC 11 rfl, hM 27 rfl]; exact h18
  · rw [hC 24 rfl, hM0 18 (by omega), hC 25 rfl, hM 13 rfl]; exact h19
  · rw [hM 14 rfl]; exact h20
  · refine r_txt_fr2 h21 ?_ (by rw [hC 24 rfl]) (by rw [hC 28 rfl]) (hC 30 rfl) (hC 31 rfl) (hC 32 rfl) ?_
    · intro a ha n1 n2 n3
      refine hC a ?_
      unfold chC
      simp only [Bool.or_eq_false_iff, Bool.and_eq_false_iff, decide_eq_false_iff_not, beq_eq_false_iff_ne]
      omega
    · intro a ha hb
      refine hM a ?_
      unfold chM
      simp only [Bool.or_eq_false_iff, Bool.and_eq_false_iff, decide_eq_false_iff_not, beq_eq_false_iff_ne]
      omega
  · rw [hC 0 rfl, hC 34 rfl, hM0 48 (by omega), hC 35 rfl, hC 36 rfl, hC 37 rfl, hM 30 rfl, hM 31 rfl, hM 32 rfl]; exact h22
  · rw [hC 39 rfl, hM 33 rfl]; exact h23
  · rw [hC 0 rfl, hC 1 rfl, hM0 56 (by omega), hM 35 rfl]; exact h24
  · rw [hC 41 rfl, hC 42 rfl, hC 43 rfl, hM0 58 (by omega), hM 36 rfl, hM 37 rfl, hM 38 rfl, hM 39 rfl]; exact h25
  · rw [hM 29 rfl]; exact h26
theorem hhM_s (σ : St) (f : Nat) (x y : Int32) : fX11_heapHeight_2 σ (f + 1) x y = fX11_heapHeight_2B σ (fX11_heapHeight_2 σ f) x y := rfl
theorem shM_s (σ : St) (f : Nat) (x y : Int32) : fX11_height_2 σ (f + 1) x y = fX11_height_2B σ (fX11_height_2 σ f) x y := rfl
/-- the model's heights -/
theorem heapHeightM {τ : St} {O : Nat → Nat} {s : Nat} (hs : s < 64) (hO : ∀ z, z < 4 → O z ≤ 99 ∧ τ 3 (64 * z + s) = nI (O z)) (hg : ∀ z, z + 1 < 4 → O z = 0 → O (z + 1) = 0) : fX11_heapHeight τ (nI s) = some (nI (topN O 4)) := by
  have main : ∀ (d z f : Nat), z + d = 4 → d < f → z ≤ topN O 4 → fX11_heapHeight_2 τ f (nI s) (nI z) = some (nI (topN O 4)) := by
    have tl := topN_le O 4
    have ti := topN_iff (O := O) (n := 4) hg
    intro d
    induction d with
    | zero =>
      intro z f hz hf ht
      obtain ⟨f, rfl⟩ : ∃ g, f = g + 1 := ⟨f - 1, by omega⟩
      rw [hhM_s]; unfold fX11_heapHeight_2B
      rw [if_pos (show (4 : Int32) ≤ nI z from c_full (n := 4) z (by omega) (by omega))]
      congr 2; omega
    | succ d ih =>
      intro z f hz hf ht
      obtain ⟨f, rfl⟩ : ∃ g, f = g + 1 := ⟨f - 1, by omega⟩
      obtain ⟨o1, o2⟩ := hO z (by omega)
      have tz := ti z (by omega)
      rw [hhM_s]; unfold fX11_heapHeight_2B
      rw [if_neg (show ¬ (4 : Int32) ≤ nI z from c_less (n := 4) z (by omega) (by omega)), show (64 : Int32) = nI 64 from rfl, pk_mul, nI_add, p_rdN (by omega) (by omega), o2]
      by_cases c : O z = 0
      · rw [if_pos ((nI_le0 (by omega)).mpr c)]; congr 2; omega
      · rw [if_neg (fun q => c ((nI_le0 (by omega)).mp q)), show nI z + 1 = nI (z + 1) from (nI_succ z).symm]
        exact ih (z + 1) f (by omega) (by omega) (by have := tz.mpr (by omega); omega)
  exact main 4 0 FU (by omega) (by rw [FU_eq]; omega) (by omega)
theorem heightM {τ : St} {O : Nat → Nat} {s : Nat} (hs : s + 6 ≤ 288) (hO : ∀ z, z < 6 → O z ≤ 99 ∧ τ 5 (s + z) = nI (O z)) (hg : ∀ z, z + 1 < 6 → O z = 0 → O (z + 1) = 0) : fX11_height τ (nI s) = some (nI (topN O 6)) := by
  have main : ∀ (d z f : Nat), z + d = 6 → d < f → z ≤ topN O 6 → fX11_height_2 τ f (nI s) (nI z) = some (nI (topN O 6)) := by
    have tl := topN_le O 6
    have ti := topN_iff (O := O) (n := 6) hg
    intro d
    induction d with
    | zero =>
      intro z f hz hf ht
      obtain ⟨f, rfl⟩ : ∃ g, f = g + 1 := ⟨f - 1, by omega⟩
      rw [shM_s]; unfold fX11_height_2B
      rw [if_pos (show (6 : Int32) ≤ nI z from c_full (n := 6) z (by omega) (by omega))]
      congr 2; omega
    | succ d ih =>
      intro z f hz hf ht
      obtain ⟨f, rfl⟩ : ∃ g, f = g + 1 := ⟨f - 1, by omega⟩
      obtain ⟨o1, o2⟩ := hO z (by omega)
      have tz := ti z (by omega)
      rw [shM_s]; unfold fX11_height_2B
      rw [if_neg (show ¬ (6 : Int32) ≤ nI z from c_less (n := 6) z (by omega) (by omega)), nI_add, p_rdN (by omega) (by omega), o2]
      by_cases c : O z = 0
      · rw [if_pos ((nI_le0 (by omega)).mpr c)]; congr 2; omega
      · rw [if_neg (fun q => c ((nI_le0 (by omega)).mp q)), show nI z + 1 = nI (z + 1) from (nI_succ z).symm]
        exact ih (z + 1) f (by omega) (by omega) (by have := tz.mpr (by omega); omega)
  exact main 6 0 FU (by omega) (by rw [FU_eq]; omega) (by omega)
/-- the height of column q of the holds -/
def hTop (O : Nat → Nat) (q : Nat) : Nat := topN (fun z => O (6 * q + z)) 6
theorem hold_height {w b : Nat} {σ τ : St} {O W K P : Nat → Nat} (hw : w < 2) (hb : stN (b + 2) = 144) (hs : r_stk (σ (b + 2))) (hr : r_hold O W K P) (hh : r_hW w b σ τ O W K P) {q : Nat} (hq : q < 24) : fX8_height (b + 2) σ (nI q) = some (nI (hTop O q)) ∧ fX11_height τ (nI (144 * w + 6 * q)) = some (nI (hTop O q)) := by
  constructor
  · refine height_spec (c := 24) (l := 6) (O := fun z => O (6 * q + z)) hs.1 hq (by omega) hs.2.1 (by rw [hb]; omega) (by rw [hb]; omega) (by omega) (fun z hz => ?_)
    have h1 := (hr.1 (6 * q + z) (by omega)).1
    refine ⟨by show O (6 * q + z) < 1000; omega, ?_⟩
    rw [Nat.mul_comm q 6]
    exact (hh (6 * q + z) (by omega)).1
  · refine heightM (O := fun z => O (6 * q + z)) (by omega) (fun z hz => ?_) (fun z hz e => hr.2 q z hq (by omega) e)
    refine ⟨(hr.1 (6 * q + z) (by omega)).1, ?_⟩
    rw [Nat.add_assoc]
    exact (hh (6 * q + z) (by omega)).2.2.2.2.1
theorem hTop_iff {O W K P : Nat → Nat} (hr : r_hold O W K P) {q : Nat} (hq : q < 24) : hTop O q ≤ 6 ∧ ∀ z, z < 6 → (z < hTop O q ↔ 0 < O (6 * q + z)) :=
  ⟨topN_le _ _, topN_iff (O := fun z => O (6 * q + z)) (n := 6) (fun z hz e => hr.2 q z hq (by omega) e)⟩
/-- one more cell on a column, if its top is free -/
theorem hold_more {O W K P : Nat → Nat} (hr : r_hold O W K P) {q m o w k p : Nat} (hq : q < 24) (hm : m < 6) (hb : ∀ z, z + 1 = m → 0 < O (6 * q + z)) (ho : 0 < o ∧ o ≤ 99) (hw : w ≤ 9999) (hk : k ≤ 9999) (hp : p ≤ 1) : r_hold (fun j => if j = 6 * q + m then o else O j) (fun j => if j = 6 * q + m then w else W j) (fun j => if j = 6 * q + m then k else K j) (fun j => if j = 6 * q + m then p else P j) := by
  refine ⟨fun j hj => ?_, fun c z hc hz e => ?_⟩
  · by_cases e : j = 6 * q + m
    · simp only [if_pos e]; exact ⟨ho.2, hw, hk, hp, by omega⟩
    · simp only [if_neg e]; exact hr.1 j hj
  · by_cases e1 : 6 * c + z = 6 * q + m
    · simp only [if_pos e1] at e; omega
    · simp only [if_neg e1] at e
      by_cases e2 : 6 * c + z + 1 = 6 * q + m
      · have hcq : c = q := by omega
        subst hcq
        have := hb z (by omega)
        omega
      · simp only [if_neg e2]; exact hr.2 c z hc hz e
/-- a top taken off -/
theorem hold_less {O W K P : Nat → Nat} (hr : r_hold O W K P) {q m : Nat} (hq : q < 24) (hm : m < 6) (hb : m + 1 < 6 → O (6 * q + (m + 1)) = 0) : r_hold (fun j => if j = 6 * q + m then 0 else O j) (fun j => if j = 6 * q + m then 0 else W j) (fun j => if j = 6 * q + m then 0 else K j) (fun j => if j = 6 * q + m then 0 else P j) := by
  refine ⟨fun j hj => ?_, fun c z hc hz e => ?_⟩
  · by_cases e : j = 6 * q + m
    · simp only [if_pos e]; exact ⟨by omega, by omega, by omega, by omega, by simp⟩
    · simp only [if_neg e]; exact hr.1 j hj
  · by_cases e2 : 6 * c + z + 1 = 6 * q + m
    · simp only [if_pos e2]
    · simp only [if_neg e2]
      by_cases e1 : 6 * c + z = 6 * q + m
      · have hcq : c = q := by omega
        subst hcq
        have hz' : z = m := by omega
        subst hz'
        have := hb (by omega)
        rw [← Nat.add_assoc] at this
        exact this
      · simp only [if_neg e1] at e; exact hr.2 c z hc hz e
theorem cells_less {O W : Nat → Nat → Nat} (hr : r_cells O W) {k m : Nat} (hk : k < 64) (hm : m < 4) (hb : m + 1 < 4 → O k (m + 1) = 0) : r_cells (fun a b => if a = k ∧ b = m then 0 else O a b) (fun a b => if a = k ∧ b = m then 0 else W a b) := by
  refine ⟨fun a b ha hb' => ?_, fun a b ha hb' e => ?_⟩
  · by_cases e : a = k ∧ b = m
    · simp only [if_pos e]; exact ⟨by omega, by omega, fun _ => trivial⟩
    · simp only [if_neg e]; exact hr.1 a b ha hb'
  · by_cases e2 : a = k ∧ b + 1 = m
    · simp only [if_pos e2]
    · simp only [if_neg e2]
      by_cases e1 : a = k ∧ b = m
      · obtain ⟨rfl, rfl⟩ := e1; exact hb (by omega)
      · simp only [if_neg e1] at e; exact hr.2 a b ha hb' e
theorem opp_10 : op_10 Rel := by
  intro σ τ a0 a1 a2 a3 h
  have ht := rel_told h 0
  rcases cell_cases a0 a1 0 with ⟨e1, e2⟩ | ⟨k, z, hk, hz, e0, e1, e2⟩
  · refine ⟨0, σ, _, ?_, ?_, ht⟩
    · unfold fX10_load; rw [e1, if_pos rfl]
    · unfold fX11_load; simp only [p_nmS]; rw [e2, if_pos rfl]
  have z0 : z = 0 := (nI_e0 (by omega)).mp e0.symm
  subst z0
  have hs := sw_lt hk
  rw [show 4 * k + 0 = 4 * k from rfl] at e1
  rw [show 64 * 0 + sw k = sw k by omega] at e2
  have g1 : ¬ nI (4 * k) = -1 := nI_m1 (by omega)
  have g2 : ¬ nI (sw k) = -1 := nI_m1 (by omega)
  obtain ⟨f1, f2⟩ := hold_cases a2 a3 0
  rcases f2 with f2 | ⟨hd, c, z, hhd, hc, hz, _, _, ez, f2⟩
  · refine ⟨0, σ, _, ?_, ?_, ht⟩
    · unfold fX10_load; rw [e1, if_neg g1, f2, if_pos rfl]
    · unfold fX11_load; simp only [p_nmS]; rw [e2, if_neg g2, ← f1, f2, if_pos rfl]
  have z0 : z = 0 := (nI_e0 (by omega)).mp ez.symm
  subst z0
  have hq : 6 * hd + c < 24 := by omega
  rw [show 36 * hd + 6 * c + 0 = 6 * (6 * hd + c) by omega] at f2
  generalize 6 * hd + c = q at *
  rw [f2] at f1
  have f1 := f1.symm
  have g3 : ¬ nI (6 * q) = -1 := nI_m1 (by omega)
  obtain ⟨S, _, s1, s2⟩ := g_sea ht
  by_cases cs : nI S = 0
  rotate_left
  · refine ⟨0, σ, _, ?_, ?_, ht⟩
    · unfold fX10_load; rw [e1, if_neg g1, f2, if_neg g3, s1, if_neg cs]
    · unfold fX11_load; simp only [p_nmS]; rw [e2, if_neg g2, f1, if_neg g3, s2, if_neg cs]
  obtain ⟨hp, O, W, hr, hcc⟩ := g_pile ht
  obtain ⟨Oh, Wh, K, P, hrh, hh⟩ := g_hW ht
  have hk1 := g_stk ht
  have T1 := pile_height (τ := st_put τ 0 0 0) hp hr (fun k z hk hz => (hcc k z hk hz).1) hk
  have T2 := heapHeightM (τ := st_put τ 0 0 0) (O := O k) hs (fun z hz => ⟨(hr.1 k z hk hz).1, (hcc k z hk hz).2.2.2.2.1⟩) (fun z hz e => hr.2 k z hk (by omega) e)
  obtain ⟨T3, T4⟩ := hold_height (w := 0) (b := 10) (by omega) rfl hk1 hrh hh hq
  rw [show 144 * 0 + 6 * q = 6 * q by omega] at T4
  have d1 : nI (4 * k) / 4 = nI k := by rw [show (4 : Int32) = nI 4 from rfl, pk_div (by omega) (by omega) (by omega)]; congr 1; omega
  have d2 : nI (6 * q) / 6 = nI q := by rw [show (6 : Int32) = nI 6 from rfl, pk_div (by omega) (by omega) (by omega)]; congr 1; omega
  have ti := topN_iff (O := O k) (n := 4) (fun z hz e => hr.2 k z hk (by omega) e)
  have tl := topN_le (O k) 4
  obtain ⟨hl, hi⟩ := hTop_iff hrh hq
  by_cases c1 : topN (O k) 4 = 0
  · refine ⟨0, σ, _, ?_, ?_, ht⟩
    · unfold fX10_load fX8_moveTopL; rw [e1, if_neg g1, f2, if_neg g3, s1, if_pos cs, d1, d2, T1, p_cq, T3, p_cq, c1, if_pos (show nI 0 = 0 from rfl)]; rfl
    · unfold fX11_load; simp only [p_nmS]; rw [e2, if_neg g2, f1, if_neg g3, s2, if_pos cs, T2, p_cq, c1, if_pos (show nI 0 = 0 from rfl)]
  have w1 : fX10_within (nI q) (σ 12 0) = 1 := by rw [hk1.1]; exact wi_t ⟨nI_pos' (by omega), nI_lt (b := 24) hq (by omega)⟩
  have nt : ¬ nI (topN (O k) 4) = 0 := fun x => c1 ((nI_e0 (by omega)).mp x)
  by_cases c2 : hTop Oh q = 6
  · refine ⟨0, σ, _, ?_, ?_, ht⟩
    · unfold fX10_load fX8_moveTopL
      rw [e1, if_neg g1, f2, if_neg g3, s1, if_pos cs, d1, d2, T1, p_cq, T3, p_cq, if_neg nt, w1, if_neg n10, hk1.2.1, c2, if_neg (show ¬ nI 6 < 6 by decide)]; rfl
    · unfold fX11_load; simp only [p_nmS]; rw [e2, if_neg g2, f1, if_neg g3, s2, if_pos cs, T2, p_cq, if_neg nt, T4, p_cq, c2, if_pos (show nI 6 = 6 from rfl)]
  have n6 : ¬ nI (hTop Oh q) = 6 := fun x => c2 ((nI_eq (a := hTop Oh q) (b := 6) (by omega) (by omega)).mp x)
  obtain ⟨t, et⟩ : ∃ t, topN (O k) 4 = t + 1 := ⟨topN (O k) 4 - 1, by omega⟩
  have it : 0 < O k t := (ti t (by omega)).mp (by omega)
  generalize em : hTop Oh q = m at *
  have x1 : nI k * 4 + nI (t + 1) - 1 = nI (4 * k + t) := by
    rw [show (4 : Int32) = nI 4 from rfl, pk_mul, nI_add, show k * 4 + (t + 1) = 4 * k + t + 1 by omega]; exact nI_pred _
  have x2 : nI q * 6 + nI m = nI (6 * q + m) := by
    rw [show (6 : Int32) = nI 6 from rfl, pk_mul, nI_add, Nat.mul_comm]
  have x3 : nI (sw k) + 64 * nI (t + 1) - 64 = nI (64 * t + sw k) := by
    rw [show (64 : Int32) = nI 64 from rfl, pk_mul, nI_add, pk_sub (by omega)]; congr 1; omega
  have x4 : nI (6 * q) + nI m = nI (6 * q + m) := nI_add _ _
  obtain ⟨y1, y2, y3, y4, y5, y6⟩ := hcc k t hk (by omega)
  have lc : fX10_load σ a0 a1 a2 a3 = some (1, st_put (st_put (st_put (st_put (st_put (st_put (st_put (st_put σ 13 (6 * q + m) (nI (O k t))) 14 (6 * q + m) (nI (W k t))) 15 (6 * q + m) 0) 16 (6 * q + m) 0) 6 (4 * k + t) 0) 7 (4 * k + t) 0) 8 (4 * k + t) 0) 9 (4 * k + t) 0) := by
    unfold fX10_load fX8_moveTopL
    rw [e1, if_neg g1, f2, if_neg g3, s1, if_pos cs, d1, d2, T1, p_cq, T3, p_cq, if_neg nt, w1, if_neg n10, hk1.2.1, hp.2.1, if_pos (show nI m < 6 from nI_lt (b := 6) (by omega) (by omega)), et, x1, x2]
    rw [show stN 5 = 256 from rfl, show stN 12 = 144 from rfl]
    rw [p_rdN (by omega) (by omega), p_wrN (by omega) (by omega), p_rdN (by omega) (by omega), p_wrN (by omega) (by omega), p_rdN (by omega) (by omega), p_wrN (by omega) (by omega), p_rdN (by omega) (by omega), p_wrN (by omega) (by omega), p_wrN (by omega) (by omega), p_wrN (by omega) (by omega), p_wrN (by omega) (by omega), p_wrN (by omega) (by omega)]
    simp only [sp_ne (show ¬ 5 + 2 = 12 + 1 by omega), sp_ne (show ¬ 5 + 3 = 12 + 1 by omega), sp_ne (show ¬ 5 + 3 = 12 + 2 by omega), sp_ne (show ¬ 5 + 4 = 12 + 1 by omega), sp_ne (show ¬ 5 + 4 = 12 + 2 by omega), sp_ne (show ¬ 5 + 4 = 12 + 3 by omega)]
    rw [show σ (5 + 1) (4 * k + t) = nI (O k t) from y1, show σ (5 + 2) (4 * k + t) = nI (W k t) from y2, show σ (5 + 3) (4 * k + t) = 0 from y3, show σ (5 + 4) (4 * k + t) = 0 from y4]
    rfl
  have lm : fX11_load τ a0 a1 a2 a3 = some (1, st_put (st_put (st_put (st_put (st_put (st_put (st_put τ 0 0 0) 5 (6 * q + m) (nI (O k t))) 6 (6 * q + m) (nI (W k t))) 7 (6 * q + m) 0) 8 (6 * q + m) 0) 3 (64 * t + sw k) 0) 4 (64 * t + sw k) 0) := by
    unfold fX11_load; simp only [p_nmS]
    rw [e2, if_neg g2, f1, if_neg g3, s2, if_pos cs, T2, p_cq, if_neg nt, T4, p_cq, if_neg n6, p_cq, p_cq, et, x3, x4]
    generalize st_put τ 0 0 0 = ρ at *
    rw [p_rdN (by omega) (by omega), p_wrN (by omega) (by omega), p_rdN (by omega) (by omega), p_wrN (by omega) (by omega), p_wrN (by omega) (by omega), p_wrN (by omega) (by omega), p_wrN (by omega) (by omega), p_wrN (by omega) (by omega)]
    rw [sp_ne (show ¬ 4 = 5 by omega), y5, y6]
    rfl
  refine ⟨1, _, _, lc, lm, ?_⟩
  have o9 := hr.1 k t hk (by omega)
  have nx : t + 1 < 4 → O k (t + 1) = 0 := fun hlt => by
    have := ti (t + 1) hlt
    omega
  have hbm : ∀ z, z + 1 = m → 0 < Oh (6 * q + z) := fun z hz => (hi z (by omega)).mp (by omega)
  generalize st_put τ 0 0 0 = ρ at *
  refine rel_body ht (fun a ha => ?_) (fun a ha => ?_) (fun j hj => ?_) ?_ ?_ ?_ ?_ ?_ ?_ ?_ ?_ ?_ ?_ ?_
  · unfold chC at ha
    simp only [Bool.or_eq_false_iff, Bool.and_eq_false_iff, decide_eq_false_iff_not, beq_eq_false_iff_ne] at ha
    rw [sp_ne (by omega), sp_ne (by omega), sp_ne (by omega), sp_ne (by omega), sp_ne (by omega), sp_ne (by omega), sp_ne (by omega), sp_ne (by omega)]
  · unfold chM at ha
    simp only [Bool.or_eq_false_iff, Bool.and_eq_false_iff, decide_eq_false_iff_not, beq_eq_false_iff_ne] at ha
    rw [sp_ne (by omega), sp_ne (by omega), sp_ne (by omega), sp_ne (by omega), sp_ne (by omega), sp_ne (by omega)]
  · simp [st_put, st_row]
  · refine ⟨by simpa [st_put, st_row, upd] using hp, _, _, cells_less hr hk (show t < 4 by omega) nx, fun a b ha hb => ?_⟩
    obtain ⟨q1, q2, q3, q4, q5, q6⟩ := hcc a b ha hb
    by_cases e : a = k ∧ b = t
    · simp only [if_pos e]
      obtain ⟨rfl, rfl⟩ := e
      refine ⟨?_, ?_, ?_, ?_, ?_, ?_⟩ <;> simp [st_put, st_row, upd, show (0 : Int32) = nI 0 from rfl]
    · have m1 : ¬ 4 * a + b = 4 * k + t := fun q => e (by omega)
      have m2 : ¬ 64 * b + sw a = 64 * t + sw k := fun q => by
        have w1 := sw_lt ha
        have : b = t := by omega
        subst this
        exact e ⟨sw_inj ha hk (by omega), rfl⟩
      simp only [if_neg e]
      refine ⟨?_, ?_, ?_, ?_, ?_, ?_⟩
      · simpa [st_put, st_row, upd, m1] using q1
      · simpa [st_put, st_row, upd, m1] using q2
      · simpa [st_put, st_row, upd, m1] using q3
      · simpa [st_put, st_row, upd, m1] using q4
      · simpa [st_put, st_row, upd, m2] using q5
      · simpa [st_put, st_row, upd, m2] using q6
  · simpa [st_put, st_row, upd] using g_out ht
  · simpa [st_put, st_row, upd] using g_stk ht
  · simpa [st_put, st_row, upd] using g_stkT ht
  · refine ⟨_, _, _, _, hold_more hrh hq (show m < 6 by omega) hbm ⟨it, o9.1⟩ o9.2.1 (show 0 ≤ 9999 by omega) (show 0 ≤ 1 by omega), fun j hj => ?_⟩
    obtain ⟨q1, q2, q3, q4, q5, q6, q7, q8⟩ := hh j hj
    rw [show 144 * 0 + j = j by omega] at q5 q6 q7 q8
    by_cases e : j = 6 * q + m
    · simp only [if_pos e]
      subst e
      refine ⟨?_, ?_, ?_, ?_, ?_, ?_, ?_, ?_⟩ <;> simp [st_put, st_row, upd, show (0 : Int32) = nI 0 from rfl]
    · simp only [if_neg e]
      refine ⟨?_, ?_, ?_, ?_, ?_, ?_, ?_, ?_⟩
      · simpa [st_put, st_row, upd, e] using q1
      · simpa [st_put, st_row, upd, e] using q2
      · simpa [st_put, st_row, upd, e] using q3
      · simpa [st_put, st_row, upd, e] using q4
      · simpa [st_put, st_row, upd, e] using q5
      · simpa [st_put, st_row, upd, e] using q6
      · simpa [st_put, st_row, upd, e] using q7
      · simpa [st_put, st_row, upd, e] using q8
  · simpa [st_put, st_row, upd] using g_well ht
  · simpa [st_put, st_row, upd] using g_sea ht
  · simpa [st_put, st_row, upd] using g_state ht
  · simpa [st_put, st_row, upd] using g_lean ht
  · simpa [st_put, st_row, upd] using g_gone ht
  · simpa [st_put, st_row, upd] using g_limit ht
