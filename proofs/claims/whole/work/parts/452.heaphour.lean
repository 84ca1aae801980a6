/-! an hour of the heap: the water goes down -/
theorem mk_cell {m : Nat} (h : m < 256) : sw (m % 64) < 64 ∧ m / 64 < 4 ∧ 64 * (m / 64) + sw (sw (m % 64)) = m := by
  refine ⟨sw_lt (by omega), by omega, ?_⟩
  rw [sw_sw (by omega)]; omega
theorem cell_mk {k z : Nat} (hk : k < 64) (hz : z < 4) : 64 * z + sw k < 256 ∧ sw ((64 * z + sw k) % 64) = k ∧ (64 * z + sw k) / 64 = z := by
  have := sw_lt hk
  refine ⟨by omega, ?_, by omega⟩
  rw [show (64 * z + sw k) % 64 = sw k by omega, sw_sw hk]
def hpG (P : Pg) (so rn ck : Nat) (O W : Nat → Nat → Nat) (k z : Nat) : Nat := if O k z = 0 then 0 else heldN (lawV (envW (O k z) (W k z) z so rn ck 0 (litN k ck z (topN (O k) 4))) 0 P) (W k z)
theorem h139_s (f : Nat) (τ : St) (x : Int32) : fX11_heapHour_139 (f + 1) τ x = fX11_heapHour_139B (fX11_heapHour_139 f) τ x := rfl
theorem h199_s (f : Nat) (τ : St) (x : Int32) : fX11_heapHour_199 (f + 1) τ x = fX11_heapHour_199B (fX11_heapHour_199 f) τ x := rfl
theorem h254_s (f : Nat) (τ : St) (x : Int32) : fX11_heapHour_254 (f + 1) τ x = fX11_heapHour_254B (fX11_heapHour_254 f) τ x := rfl
theorem gives_M {so rn N : Nat} {P : Pg} {τ0 : St} {O W : Nat → Nat → Nat} (hN : N < 720) (hr : r_cells O W) (h0 : hcM τ0 P N so rn O W) : ∀ (d m f : Nat) (τ : St), m + d = 256 → d < f → (∀ a, ¬ a = 24 → ¬ a = 25 → ¬ a = 26 → τ a = τ0 a) → (∀ i, i < m → τ 26 i = nI (hpG P so rn (N % 24) O W (sw (i % 64)) (i / 64))) → ∃ τ', fX11_heapHour_139 f τ (nI m) = fX11_heapHour_199 FU τ' 0 ∧ (∀ a, ¬ a = 24 → ¬ a = 25 → ¬ a = 26 → τ' a = τ0 a) ∧ ∀ i, i < 256 → τ' 26 i = nI (hpG P so rn (N % 24) O W (sw (i % 64)) (i / 64)) := by
  obtain ⟨hn, hs, hr1, hl, hc⟩ := h0
  intro d
  induction d with
  | zero =>
    intro m f τ h1 h2 hf hw
    obtain ⟨f, rfl⟩ : ∃ g, f = g + 1 := ⟨f - 1, by omega⟩
    have : m = 256 := by omega
    subst this
    rw [h139_s]; unfold fX11_heapHour_139B
    rw [if_pos (show (256 : Int32) ≤ nI 256 by decide)]
    exact ⟨τ, rfl, hf, hw⟩
  | succ d ih =>
    intro m f τ h1 h2 hf hw
    obtain ⟨f, rfl⟩ : ∃ g, f = g + 1 := ⟨f - 1, by omega⟩
    obtain ⟨q1, q2, q3⟩ := mk_cell (m := m) (by omega)
    obtain ⟨c1, c2⟩ := hc _ _ q1 q2
    obtain ⟨r1, r2, r3⟩ := hr.1 _ _ q1 q2
    rw [q3] at c1 c2
    rw [h139_s]; unfold fX11_heapHour_139B
    rw [if_neg (show ¬ (256 : Int32) ≤ nI m from fun q => absurd ((nI_leI (a := 256) (by omega) (by omega)).mp q) (by omega)), p_wrN (by omega) (by omega), p_rdN (by omega) (by omega), sp_ne (a := 3) (by omega), hf 3 (by omega) (by omega) (by omega), c1, show nI m + 1 = nI (m + 1) from (nI_succ _).symm]
    generalize hA : st_put τ 26 m 0 = A
    have fA : ∀ a, ¬ a = 24 → ¬ a = 25 → ¬ a = 26 → A a = τ0 a := fun a h1 h2 h3 => by rw [← hA, sp_ne h3, hf a h1 h2 h3]
    by_cases co : O (sw (m % 64)) (m / 64) = 0
    · rw [if_pos ((nI_e0 (by omega)).mpr co)]
      refine ih (m + 1) f A (by omega) (by omega) fA ?_
      intro i hi
      by_cases q : i = m
      · subst q; rw [← hA, sp_same, up_same]; unfold hpG; rw [if_pos co]; rfl
      · rw [← hA, sp_same, up_ne q]; exact hw i (by omega)
    · rw [if_neg (fun q => co ((nI_e0 (by omega)).mp q))]
      have tk := takesHeap_M (τ := A) (k := sw (m % 64)) (z := m / 64) (w := W (sw (m % 64)) (m / 64)) (N := N) (sort := so) (rain := rn) (O := O (sw (m % 64))) q1 q2 r2 hN (by rw [fA 0 (by omega) (by omega) (by omega)]; exact hn) (by rw [fA 0 (by omega) (by omega) (by omega)]; exact hs) (by rw [fA 1 (by omega) (by omega) (by omega)]; exact hr1) (fun z hz => ⟨(hr.1 _ z q1 hz).1, by rw [fA 3 (by omega) (by omega) (by omega)]; exact (hc _ z q1 hz).1⟩) (fun z hz => hr.2 _ z q1 (by omega)) (by rw [q3, fA 4 (by omega) (by omega) (by omega)]; exact c2)
      rw [q3] at tk
      obtain ⟨τ1, v1, v2, v3⟩ := tk
      obtain ⟨τ2, w1, w2⟩ := lawOf_M2 (h := 0) (lawsM_fr hl (τ' := A) (fun a h1 h2 => fA a (by omega) (by omega) (by omega))) (by omega) v2 v3
      have e4 : τ2 4 m = nI (W (sw (m % 64)) (m / 64)) := by rw [w2 4 (by omega) (by omega), fA 4 (by omega) (by omega) (by omega)]; exact c2
      rw [v1, p_cv, show fX11_lawOf τ1 0 = _ from w1, p_cb, p_rdN (by omega) (by omega), p_wrN (by omega) (by omega), e4, cut_M _ (by omega)]
      refine ih (m + 1) f _ (by omega) (by omega) (fun a h1 h2 h3 => by rw [sp_ne h3, w2 a h1 h2, fA a h1 h2 h3]) ?_
      intro i hi
      by_cases q : i = m
      · subst q; rw [sp_same, up_same]; unfold hpG; rw [if_neg co]
      · rw [sp_same, up_ne q, w2 26 (by omega) (by omega), ← hA, sp_same, up_ne q]; exact hw i (by omega)
theorem takes_M {Wm Gm : Nat → Nat} {τ0 : St} (hG : ∀ i, i < 256 → Gm i ≤ Wm i ∧ Wm i ≤ 9999) (hg : ∀ i, i < 256 → τ0 26 i = nI (Gm i)) : ∀ (d m f : Nat) (τ : St), m + d = 256 → d < f → (∀ a, ¬ a = 0 → ¬ a = 4 → τ a = τ0 a) → (∀ j, ¬ j = 11 → τ 0 j = τ0 0 j) → (∀ i, i < 256 → τ 4 i = nI (if i < m then Wm i - Gm i else Wm i)) → ∃ τ', fX11_heapHour_199 f τ (nI m) = fX11_heapHour_254 FU τ' 0 ∧ (∀ a, ¬ a = 0 → ¬ a = 4 → τ' a = τ0 a) ∧ (∀ j, ¬ j = 11 → τ' 0 j = τ0 0 j) ∧ (∀ i, i < 256 → τ' 4 i = nI (Wm i - Gm i)) ∧ τ' 0 11 = τ 0 11 + sumI (fun i => if i < 64 then nI (Gm i) else 0) m d := by
  intro d
  induction d with
  | zero =>
    intro m f τ h1 h2 hf hj hw
    obtain ⟨f, rfl⟩ : ∃ g, f = g + 1 := ⟨f - 1, by omega⟩
    have : m = 256 := by omega
    subst this
    rw [h199_s]; unfold fX11_heapHour_199B
    rw [if_pos (show (256 : Int32) ≤ nI 256 by decide)]
    refine ⟨τ, rfl, hf, hj, fun i hi => by rw [hw i hi, if_pos hi], ?_⟩
    show τ 0 11 = τ 0 11 + 0
    grind
  | succ d ih =>
    intro m f τ h1 h2 hf hj hw
    obtain ⟨f, rfl⟩ : ∃ g, f = g + 1 := ⟨f - 1, by omega⟩
    obtain ⟨g1, g2⟩ := hG m (by omega)
    have hwm : τ 4 m = nI (Wm m) := by rw [hw m (by omega), if_neg (by omega)]
    rw [h199_s]; unfold fX11_heapHour_199B
    rw [if_neg (show ¬ (256 : Int32) ≤ nI m from fun q => absurd ((nI_leI (a := 256) (by omega) (by omega)).mp q) (by omega)), p_rdN (by omega) (by omega), p_rdN (by omega) (by omega), p_wrN (by omega) (by omega), hwm, hf 26 (by omega) (by omega), hg m (by omega), pk_sub g1, show nI m + 1 = nI (m + 1) from (nI_succ _).symm, sp_ne (a := 26) (by omega), hf 26 (by omega) (by omega), sp_ne (a := 0) (by omega)]
    generalize hA : st_put τ 4 m (nI (Wm m - Gm m)) = A
    have fA : ∀ a, ¬ a = 0 → ¬ a = 4 → A a = τ0 a := fun a h1 h2 => by rw [← hA, sp_ne h2, hf a h1 h2]
    have oA : A 0 = τ 0 := by rw [← hA, sp_ne (by omega)]
    have wA : ∀ i, i < 256 → A 4 i = nI (if i < m + 1 then Wm i - Gm i else Wm i) := by
      intro i hi
      rw [← hA, sp_same]
      by_cases q : i = m
      · subst q; rw [up_same, if_pos (by omega)]
      · rw [up_ne q, hw i hi]
        by_cases q' : i < m
        · rw [if_pos q', if_pos (by omega)]
        · rw [if_neg q', if_neg (by omega)]
    by_cases c : m < 64
    · rw [if_neg (show ¬ (64 : Int32) ≤ nI m from fun q => absurd ((nI_leI (a := 64) (by omega) (by omega)).mp q) (by omega)), p_rdN (by omega) (by omega), hg m (by omega), p_nmS]
      obtain ⟨τ', u1, u2, u3, u4, u5⟩ := ih (m + 1) f (st_put A 0 11 (τ 0 11 + nI (Gm m))) (by omega) (by omega) (fun a h1 h2 => by rw [sp_ne h1, fA a h1 h2]) (fun j hj' => by rw [sp_same, up_ne hj', oA, hj j hj']) (fun i hi => by rw [sp_ne (by omega)]; exact wA i hi)
      refine ⟨τ', u1, u2, u3, u4, ?_⟩
      rw [u5, sp_same, up_same]
      show _ = τ 0 11 + ((if m < 64 then nI (Gm m) else 0) + sumI (fun i => if i < 64 then nI (Gm i) else 0) (m + 1) d)
      rw [if_pos c]; grind
    · rw [if_pos (show (64 : Int32) ≤ nI m from nI_le (a := 64) (by omega) (by omega))]
      obtain ⟨τ', u1, u2, u3, u4, u5⟩ := ih (m + 1) f A (by omega) (by omega) fA (fun j hj' => by rw [oA, hj j hj']) wA
      refine ⟨τ', u1, u2, u3, u4, ?_⟩
      rw [u5, oA]
      show _ = τ 0 11 + ((if m < 64 then nI (Gm m) else 0) + sumI (fun i => if i < 64 then nI (Gm i) else 0) (m + 1) d)
      rw [if_neg c]; grind
theorem puts_M {Vm Gm : Nat → Nat} {τ0 : St} (hG : ∀ i, i < 256 → Vm i ≤ 9999 ∧ Gm i ≤ 9999) (hg : ∀ i, i < 256 → τ0 26 i = nI (Gm i)) : ∀ (d m f : Nat) (τ : St), m + d = 192 → d < f → (∀ a, ¬ a = 0 → ¬ a = 4 → τ a = τ0 a) → (∀ j, ¬ j = 11 → τ 0 j = τ0 0 j) → (∀ i, i < 256 → τ 4 i = nI (if i < m then capN (Vm i + Gm (i + 64)) else Vm i)) → ∃ τ', fX11_heapHour_254 f τ (nI m) = some τ' ∧ (∀ a, ¬ a = 0 → ¬ a = 4 → τ' a = τ0 a) ∧ (∀ j, ¬ j = 11 → τ' 0 j = τ0 0 j) ∧ (∀ i, i < 256 → τ' 4 i = nI (if i < 192 then capN (Vm i + Gm (i + 64)) else Vm i)) ∧ τ' 0 11 = τ 0 11 + sumI (fun i => nI (Vm i + Gm (i + 64) - capN (Vm i + Gm (i + 64)))) m d := by
  intro d
  induction d with
  | zero =>
    intro m f τ h1 h2 hf hj hw
    obtain ⟨f, rfl⟩ : ∃ g, f = g + 1 := ⟨f - 1, by omega⟩
    have : m = 192 := by omega
    subst this
    rw [h254_s]; unfold fX11_heapHour_254B
    rw [if_pos (show (192 : Int32) ≤ nI 192 by decide)]
    refine ⟨τ, rfl, hf, hj, hw, ?_⟩
    show τ 0 11 = τ 0 11 + 0
    grind
  | succ d ih =>
    intro m f τ h1 h2 hf hj hw
    obtain ⟨f, rfl⟩ : ∃ g, f = g + 1 := ⟨f - 1, by omega⟩
    obtain ⟨g1, g2⟩ := hG m (by omega)
    obtain ⟨g3, g4⟩ := hG (m + 64) (by omega)
    have i64 : nI m + 64 = nI (m + 64) := by rw [show (64 : Int32) = nI 64 from rfl, nI_add]
    have hwm : τ 4 m = nI (Vm m) := by rw [hw m (by omega), if_neg (by omega)]
    rw [h254_s]; unfold fX11_heapHour_254B
    rw [if_neg (show ¬ (192 : Int32) ≤ nI m from fun q => absurd ((nI_leI (a := 192) (by omega) (by omega)).mp q) (by omega)), i64, p_rdN (by omega) (by omega), p_rdN (by omega) (by omega), p_rdN (by omega) (by omega), p_rdN (by omega) (by omega), hwm, hf 26 (by omega) (by omega), hg (m + 64) (by omega), more_M (by omega) (by omega), p_wrN (by omega) (by omega), p_rdN (by omega) (by omega), p_nmS, show nI m + 1 = nI (m + 1) from (nI_succ _).symm, sp_same, up_same, sp_ne (a := 0) (by omega), nI_add]
    obtain ⟨τ', u1, u2, u3, u4, u5⟩ := ih (m + 1) f (st_put (st_put τ 4 m (nI (capN (Vm m + Gm (m + 64))))) 0 11 (τ 0 11 + nI (Vm m + Gm (m + 64)) - nI (capN (Vm m + Gm (m + 64))))) (by omega) (by omega) (fun a h1 h2 => by rw [sp_ne h1, sp_ne h2, hf a h1 h2]) (fun j hj' => by rw [sp_same, up_ne hj', sp_ne (by omega), hj j hj']) (fun i hi => by
      rw [sp_ne (by omega), sp_same]
      by_cases q : i = m
      · subst q; rw [up_same, if_pos (by omega)]
      · rw [up_ne q, hw i hi]
        by_cases q' : i < m
        · rw [if_pos q', if_pos (by omega)]
        · rw [if_neg q', if_neg (by omega)])
    refine ⟨τ', u1, u2, u3, u4, ?_⟩
    rw [u5, sp_same, up_same]
    show _ = τ 0 11 + (nI (Vm m + Gm (m + 64) - capN (Vm m + Gm (m + 64))) + sumI (fun i => nI (Vm i + Gm (i + 64) - capN (Vm i + Gm (i + 64)))) (m + 1) d)
    rw [← sub_cap]; grind
theorem perm_sw : (List.range' 0 64).Perm ((List.range' 0 64).map sw) := by
  rw [← List.isPerm_iff]
  decide +kernel
theorem sumI_sw (g : Nat → Int32) : sumI g 0 64 = sumI (fun m => g (sw m)) 0 64 := by
  rw [sumI_range, sumI_range]
  have := perm_foldr (fun (i : Nat) (s : Int32) => g i + s) (fun a b c => by grind) perm_sw 0
  rw [this, List.foldr_map]
theorem rn_cells {P : Pg} {so rn ck : Nat} {O W : Nat → Nat → Nat} (hr : r_cells O W) : r_cells O (fun a z => rnW P so rn ck a (O a) (W a) z) := by
  refine ⟨fun a z ha hz => ?_, hr.2⟩
  obtain ⟨r1, r2, r3⟩ := hr.1 a z ha hz
  refine ⟨r1, ?_⟩
  show rnW P so rn ck a (O a) (W a) z ≤ 9999 ∧ (O a z = 0 → rnW P so rn ck a (O a) (W a) z = 0)
  unfold rnW
  by_cases q : z + 1 = topN (O a) 4
  · rw [if_pos q]
    have := capN_le (W a z + rn)
    refine ⟨by omega, fun q' => ?_⟩
    obtain ⟨tp, _⟩ := top_pos (O := O a) (n := 4) (by omega)
    rw [← q, Nat.add_sub_cancel] at tp
    omega
  · rw [if_neg q]; exact ⟨r2, r3⟩
theorem sk_cells {O W G : Nat → Nat → Nat} (hr : r_cells O W) (hG : ∀ k i, k < 64 → i < 4 → G k i ≤ W k i) (hg0 : ∀ k i, O k i = 0 → G k i = 0) : r_cells O (fun k z => w2N 4 (W k) (G k) z) := by
  refine ⟨fun a z ha hz => ?_, hr.2⟩
  obtain ⟨r1, r2, r3⟩ := hr.1 a z ha hz
  refine ⟨r1, ?_, fun h => ?_⟩
  · show w2N 4 (W a) (G a) z ≤ 9999
    unfold w2N
    split
    · exact (capN_le _).1
    · omega
  · show w2N 4 (W a) (G a) z = 0
    have w0 := r3 h
    unfold w2N
    by_cases q : z + 1 < 4
    · rw [if_pos q, w0, hg0 a (z + 1) (hr.2 a z ha (by omega) h)]
      have := (capN_le (0 - G a z + 0)).2
      omega
    · rw [if_neg q]; omega
theorem heap_hour {σ τ : St} {y N so rn : Nat} {P : Pg} {O W : Nat → Nat → Nat} (hN : N < 720) (hrn : rn ≤ 9) (hr : r_cells O W) (hC : hcC σ y P so rn (N % 24) O W) (hM : hcM τ P N so rn O W) (hl : σ 5 7 = τ 0 11) : ∃ σ1 σ2 τ' W2, fX8_rainAndDry 5 σ (nI rn) = some σ1 ∧ fX8_sinkWater 5 σ1 = some σ2 ∧ fX11_heapHour τ = some τ' ∧ frS y 5 σ σ2 ∧ timeC σ2 so rn (N % 24) ∧ frM τ τ' ∧ r_cells O W2 ∧ (∀ k z, k < 64 → z < 4 → σ2 7 (4 * k + z) = nI (W2 k z) ∧ τ' 4 (64 * z + sw k) = nI (W2 k z)) ∧ σ2 5 7 = τ' 0 11 := by
  have hp := hC.1
  have hlw := hC.2.1
  have hcc := hC.2.2.2
  have y44 := fW_ge hlw.1
  obtain ⟨σ1, a1, a2, a3, a4, a5⟩ := rain_allC (ck := N % 24) (by omega) hrn hr hC 64 0 FU σ (by omega) (by rw [FU_eq]; omega) (frS_r _ _ _) hC.2.2.1 (fun a z ha hz => by rw [if_neg (by omega)]; exact (hcc a z ha hz).2.1)
  obtain ⟨τ1, b1, b2, b3, b4⟩ := rain_allM hN hrn hr hM 64 0 FU τ (by omega) (by rw [FU_eq]; omega) (frM_r _) (fun a z ha hz => by rw [if_neg (by omega)]; exact (hM.2.2.2.2 a z ha hz).2)
  have hr1 := rn_cells (P := P) (so := so) (rn := rn) (ck := N % 24) hr
  generalize hV : (fun a z => rnW P so rn (N % 24) a (O a) (W a) z) = V at hr1
  have vV : ∀ a z, rnW P so rn (N % 24) a (O a) (W a) z = V a z := fun a z => by rw [← hV]
  simp only [vV] at a4 b3
  have hM1 := hcM_f hM b2 b3
  generalize hG : hpG P so rn (N % 24) O V = G
  have gle : ∀ k i, k < 64 → i < 4 → G k i ≤ V k i := by
    intro k i hk hi
    have := (hr1.1 k i hk hi).2.1
    rw [← hG]; unfold hpG
    split
    · omega
    · exact heldN_le _ (by omega)
  have g0 : ∀ k i, O k i = 0 → G k i = 0 := fun k i h => by rw [← hG]; unfold hpG; rw [if_pos h]
  have ask : askDown 5 y 4 so rn (N % 24) σ1 O V G 64 := by
    intro σ' hf hT k z hk hz ho hw
    obtain ⟨σ'', u1, u2, u3⟩ := heapLaw_C (y := y) (h := 0) (k := k) (z := z) (σ := σ') (P := P) (O := O k) (w := V k z) (sort := so) (rain := rn) (clock := N % 24) (by rw [(frS_t a2 hf).2 0 (by omega), (frS_t a2 hf).2 1 (by omega), (frS_t a2 hf).2 2 (by omega)]; exact hp) (lawsC_S (by omega) hlw (frS_t a2 hf)) (by omega) hT (by omega) hk hz (fun z hz => ⟨(hr.1 k z hk hz).1, by rw [(frS_t a2 hf).1 6 (by omega) (by omega) (by omega) (by omega)]; exact (hcc k z hk hz).1⟩) (hr1.1 k z hk hz).2.1 (by rw [Nat.mul_comm 4 k]; exact hw) (by rw [(frS_t a2 hf).1 8 (by omega) (by omega) (by omega) (by omega)]; exact (hcc k z hk hz).2.2)
    rw [if_neg (show ¬ O k z = 0 by omega)] at u1
    rw [Nat.mul_comm k 4]
    refine ⟨_, σ'', u1, ?_, u2, u3⟩
    rw [← hG]; unfold hpG; rw [if_neg (by omega)]
  obtain ⟨σ2, c1, c2, c3, c4, c5⟩ := sink_all (b := 5) (y := y) (C := 64) (L := 4) (so := so) (rn := rn) (ck := N % 24) (σ0 := σ1) (O := O) (W := V) (G := G) y44 (by omega) (by omega) (by omega) (by rw [stN_5]) (by rw [stN_5]; omega) (by rw [a2.2 0 (by omega)]; exact hp.1) (by rw [a2.2 1 (by omega)]; exact hp.2.1) (fun k i hk hi => ⟨(hr.1 k i hk hi).1, by rw [a2.1 (5 + 1) (by omega) (by omega) (by omega) (by omega), Nat.mul_comm k 4]; exact (hcc k i hk hi).1⟩) (fun k i hk hi => hr.2 k i hk (by omega)) (fun k i hk hi => ⟨gle k i hk hi, (hr1.1 k i hk hi).2.1, (hr1.1 k i hk hi).2.2⟩) ask 64 0 FU σ1 (by omega) (by rw [FU_eq]; omega) (frS_r _ _ _) a3 (fun a i ha hi => by rw [if_neg (by omega), Nat.mul_comm a 4]; exact a4 a i ha hi)
  obtain ⟨τ2, d1, d2, d3⟩ := gives_M hN hr1 hM1 256 0 FU τ1 (by omega) (by rw [FU_eq]; omega) (fun _ _ _ _ => rfl) (fun i hi => by omega)
  rw [hG] at d3
  have wm : ∀ i, i < 256 → τ2 4 i = nI (V (sw (i % 64)) (i / 64)) := by
    intro i hi
    obtain ⟨q1, q2, q3⟩ := mk_cell hi
    rw [d2 4 (by omega) (by omega) (by omega)]
    have := b3 _ _ q1 q2
    rw [q3] at this; exact this
  have gm : ∀ i, i < 256 → G (sw (i % 64)) (i / 64) ≤ V (sw (i % 64)) (i / 64) ∧ V (sw (i % 64)) (i / 64) ≤ 9999 := by
    intro i hi
    obtain ⟨q1, q2, q3⟩ := mk_cell hi
    exact ⟨gle _ _ q1 q2, (hr1.1 _ _ q1 q2).2.1⟩
  obtain ⟨τ3, e1, e2, e3, e4, e5⟩ := takes_M (Wm := fun i => V (sw (i % 64)) (i / 64)) (Gm := fun i => G (sw (i % 64)) (i / 64)) (τ0 := τ2) gm d3 256 0 FU τ2 (by omega) (by rw [FU_eq]; omega) (fun _ _ _ => rfl) (fun _ _ => rfl) (fun i hi => by rw [if_neg (by omega)]; exact wm i hi)
  obtain ⟨τ4, f1, f2, f3, f4, f5⟩ := puts_M (Vm := fun i => V (sw (i % 64)) (i / 64) - G (sw (i % 64)) (i / 64)) (Gm := fun i => G (sw (i % 64)) (i / 64)) (τ0 := τ3) (fun i hi => by have := gm i hi; show V (sw (i % 64)) (i / 64) - G (sw (i % 64)) (i / 64) ≤ 9999 ∧ G (sw (i % 64)) (i / 64) ≤ 9999; omega) (fun i hi => by rw [e2 26 (by omega) (by omega)]; exact d3 i hi) 192 0 FU τ3 (by omega) (by rw [FU_eq]; omega) (fun _ _ _ => rfl) (fun _ _ => rfl) (fun i hi => by rw [if_neg (by omega)]; exact e4 i hi)
  refine ⟨σ1, σ2, τ4, fun k z => w2N 4 (V k) (G k) z, a1, c1, ?_, frS_t a2 c2, c3, ?_, sk_cells hr1 gle g0, fun k z hk hz => ⟨?_, ?_⟩, ?_⟩
  · show fX11_heapHour_2 FU τ 0 = some τ4
    rw [show (0 : Int32) = nI 0 from rfl, b1, show (0 : Int32) = nI 0 from rfl, d1, show (0 : Int32) = nI 0 from rfl, e1, show (0 : Int32) = nI 0 from rfl, f1]
  · refine ⟨fun a h1 h2 h3 h4 h5 => by rw [f2 a h1 h2, e2 a h1 h2, d2 a h3 h4 h5, b2.1 a h1 h2 h3 h4 h5], fun j hj => by rw [f3 j hj, e3 j hj, d2 0 (by omega) (by omega) (by omega), b2.2 j hj]⟩
  · rw [Nat.mul_comm 4 k]; exact c4 k z hk hz
  · obtain ⟨q1, q2, q3⟩ := cell_mk hk hz
    rw [f4 _ q1]
    show nI (if 64 * z + sw k < 192 then capN (V (sw ((64 * z + sw k) % 64)) ((64 * z + sw k) / 64) - G (sw ((64 * z + sw k) % 64)) ((64 * z + sw k) / 64) + G (sw ((64 * z + sw k + 64) % 64)) ((64 * z + sw k + 64) / 64)) else V (sw ((64 * z + sw k) % 64)) ((64 * z + sw k) / 64) - G (sw ((64 * z + sw k) % 64)) ((64 * z + sw k) / 64)) = nI (w2N 4 (V k) (G k) z)
    rw [show (64 * z + sw k + 64) % 64 = (64 * z + sw k) % 64 by omega, show (64 * z + sw k + 64) / 64 = (64 * z + sw k) / 64 + 1 by omega, q2, q3]
    have := sw_lt hk
    unfold w2N
    by_cases q : z + 1 < 4
    · rw [if_pos q, if_pos (by omega)]
    · rw [if_neg q, if_neg (by omega)]
  · rw [c5, a5, f5, e5, d2 0 (by omega) (by omega) (by omega), b4, hl, sumI_sw (fun k => rnL rn (O k) (W k))]
    have s1 : sumI (fun c => loI (V (c / 4)) (G (c / 4)) (c % 4)) (0 * 4) (64 * 4) = sumI (fun i => if i < 64 then nI (G (sw (i % 64)) (i / 64)) else 0) 0 256 + sumI (fun i => nI (V (sw (i % 64)) (i / 64) - G (sw (i % 64)) (i / 64) + G (sw ((i + 64) % 64)) ((i + 64) / 64) - capN (V (sw (i % 64)) (i / 64) - G (sw (i % 64)) (i / 64) + G (sw ((i + 64) % 64)) ((i + 64) / 64)))) 0 192 := by
      rw [show sumI (fun c => loI (V (c / 4)) (G (c / 4)) (c % 4)) (0 * 4) (64 * 4) = sumI (fun c => (fun k z => loI (V k) (G k) z) (c / 4) (c % 4)) 0 256 from rfl, sumI_cells (fun k z => loI (V k) (G k) z), show (256 : Nat) = 64 + 192 from rfl, sumI_split, sumI_split (fun i => if i < 64 then nI (G (sw (i % 64)) (i / 64)) else 0)]
      have z1 : sumI (fun i => if i < 64 then nI (G (sw (i % 64)) (i / 64)) else 0) (0 + 64) 192 = 0 := sumI_z (fun i h1 h2 => by rw [if_neg (by omega)])
      have z2 : sumI (fun m => loI (V (sw (m % 64))) (G (sw (m % 64))) (m / 64)) 0 64 = sumI (fun i => if i < 64 then nI (G (sw (i % 64)) (i / 64)) else 0) 0 64 := by
        refine sumI_congr _ _ (fun i _ hi => ?_)
        show loI (V (sw (i % 64))) (G (sw (i % 64))) (i / 64) = if i < 64 then nI (G (sw (i % 64)) (i / 64)) else 0
        rw [if_pos (by omega)]
        unfold loI
        rw [if_pos (by omega), show i / 64 = 0 by omega]
      have z3 : sumI (fun m => loI (V (sw (m % 64))) (G (sw (m % 64))) (m / 64)) (0 + 64) 192 = sumI (fun i => nI (V (sw (i % 64)) (i / 64) - G (sw (i % 64)) (i / 64) + G (sw ((i + 64) % 64)) ((i + 64) / 64) - capN (V (sw (i % 64)) (i / 64) - G (sw (i % 64)) (i / 64) + G (sw ((i + 64) % 64)) ((i + 64) / 64)))) 0 192 := by
        rw [show 0 + 64 = 64 + 0 from rfl, sumI_shift]
        refine sumI_congr _ _ (fun i _ hi => ?_)
        show loI (V (sw ((64 + i) % 64))) (G (sw ((64 + i) % 64))) ((64 + i) / 64) = _
        unfold loI ovN
        rw [if_neg (by omega), show (64 + i) % 64 = i % 64 by omega, show (64 + i) / 64 - 1 = i / 64 by omega, show (i + 64) % 64 = i % 64 by omega, show (i + 64) / 64 = i / 64 + 1 by omega]
      rw [z1, z2, z3]; grind
    rw [s1]
    show τ 0 11 + sumI (fun m => rnL rn (O (sw m)) (W (sw m))) 0 64 + _ = τ 0 11 + sumI (fun m => rnL rn (O (sw m)) (W (sw m))) 0 64 + _ + _
    grind
