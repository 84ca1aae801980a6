/-! an hour of the heap: rain and sun -/
def rnW (P : Pg) (so rn ck k : Nat) (O W : Nat → Nat) (z : Nat) : Nat := if z + 1 = topN O 4 then capN (W z + rn) - heldN (lawV (envW (O z) (capN (W z + rn)) z so rn ck 0 (litN k ck z (topN O 4))) 1 P) (capN (W z + rn)) else W z
def rnL (rn : Nat) (O W : Nat → Nat) : Int32 := if topN O 4 = 0 then 0 else nI (W (topN O 4 - 1) + rn - capN (W (topN O 4 - 1) + rn))
def pileC (σ : St) (O W : Nat → Nat → Nat) : Prop := ∀ k z, k < 64 → z < 4 → σ 6 (4 * k + z) = nI (O k z) ∧ σ 7 (4 * k + z) = nI (W k z) ∧ σ 8 (4 * k + z) = 0
def pileM (τ : St) (O W : Nat → Nat → Nat) : Prop := ∀ k z, k < 64 → z < 4 → τ 3 (64 * z + sw k) = nI (O k z) ∧ τ 4 (64 * z + sw k) = nI (W k z)
def hcC (σ : St) (y : Nat) (P : Pg) (so rn ck : Nat) (O W : Nat → Nat → Nat) : Prop := (σ 5 0 = 64 ∧ σ 5 1 = 4 ∧ σ 5 2 = 1) ∧ lawsC σ y P ∧ timeC σ so rn ck ∧ pileC σ O W
def hcM (τ : St) (P : Pg) (N so rn : Nat) (O W : Nat → Nat → Nat) : Prop := τ 0 1 = nI N ∧ τ 0 2 = nI so ∧ τ 1 (N / 24) = nI rn ∧ lawsM τ P ∧ pileM τ O W
def frM (τ τ' : St) : Prop := (∀ a, ¬ a = 0 → ¬ a = 4 → ¬ a = 24 → ¬ a = 25 → ¬ a = 26 → τ' a = τ a) ∧ ∀ j, ¬ j = 11 → τ' 0 j = τ 0 j
theorem frM_r (τ : St) : frM τ τ := ⟨fun _ _ _ _ _ _ => rfl, fun _ _ => rfl⟩
theorem frM_t {τ τ' τ'' : St} (h : frM τ τ') (h' : frM τ' τ'') : frM τ τ'' := ⟨fun a h1 h2 h3 h4 h5 => by rw [h'.1 a h1 h2 h3 h4 h5, h.1 a h1 h2 h3 h4 h5], fun j hj => by rw [h'.2 j hj, h.2 j hj]⟩
theorem frM_2 {τ τ' : St} (h : same2 24 25 τ τ') : frM τ τ' := ⟨fun a _ _ h3 h4 _ => h a h3 h4, fun j _ => by rw [h 0 (by omega) (by omega)]⟩
theorem frM_w {j : Nat} {τ : St} {v : Int32} : frM τ (st_put τ 4 j v) := ⟨fun a _ h2 _ _ _ => sp_ne h2, fun j _ => by rw [sp_ne (by omega)]⟩
theorem frM_g {j : Nat} {τ : St} {v : Int32} : frM τ (st_put τ 26 j v) := ⟨fun a _ _ _ _ h5 => sp_ne h5, fun j _ => by rw [sp_ne (by omega)]⟩
theorem frM_l {τ : St} {v : Int32} : frM τ (st_put τ 0 11 v) := ⟨fun a h1 _ _ _ _ => sp_ne h1, fun j hj => by rw [sp_same, up_ne hj]⟩
theorem lawsC_S {y b : Nat} {σ σ' : St} {P : Pg} (hb : b ≤ 19) (h : lawsC σ y P) (hf : frS y b σ σ') : lawsC σ' y P := by
  have y44 := fW_ge h.1
  exact lawsC_fr h (hf.1 28 (by omega) (by omega) (by omega) (by omega)) (fun a h1 h2 => hf.1 a (by omega) (by omega) (by omega) (by omega))
theorem lawsM_f {τ τ' : St} {P : Pg} (h : lawsM τ P) (hf : frM τ τ') : lawsM τ' P := lawsM_fr h (fun a h1 h2 => hf.1 a (by omega) (by omega) (by omega) (by omega) (by omega))
theorem hcM_f {τ τ' : St} {P : Pg} {N so rn : Nat} {O W W' : Nat → Nat → Nat} (h : hcM τ P N so rn O W) (hf : frM τ τ') (hw : ∀ k z, k < 64 → z < 4 → τ' 4 (64 * z + sw k) = nI (W' k z)) : hcM τ' P N so rn O W' := by
  obtain ⟨h1, h2, h3, h4, h5⟩ := h
  refine ⟨by rw [hf.2 1 (by omega)]; exact h1, by rw [hf.2 2 (by omega)]; exact h2, by rw [hf.1 1 (by omega) (by omega) (by omega) (by omega) (by omega)]; exact h3, lawsM_f h4 hf, fun k z hk hz => ⟨?_, hw k z hk hz⟩⟩
  rw [hf.1 3 (by omega) (by omega) (by omega) (by omega) (by omega)]
  exact (h5 k z hk hz).1
theorem rd_s (b : Nat) (f : Nat) (σ : St) (x2 x3 : Int32) : fX8_rainAndDry_2 b (f + 1) σ x2 x3 = fX8_rainAndDry_2B b (fX8_rainAndDry_2 b f) σ x2 x3 := rfl
theorem top_pos {O : Nat → Nat} {n : Nat} (h : 0 < topN O n) : 0 < O (topN O n - 1) ∧ topN O n - 1 < n := by
  induction n with
  | zero => exact absurd h (by simp [topN])
  | succ n ih =>
    rw [topN_s] at h ⊢
    by_cases c : 0 < O n
    · rw [if_pos c]; exact ⟨c, by omega⟩
    · rw [if_neg c] at h ⊢
      obtain ⟨a, b⟩ := ih h
      exact ⟨a, by omega⟩
theorem add_sub_assoc' (a b c d : Int32) : a + (b + c) - d = a + (b + c - d) := by grind
theorem rain_colC {y so rn ck k : Nat} {P : Pg} {σ : St} {O W : Nat → Nat → Nat} {rec2 : St → Int32 → Int32 → Option St} (hk : k < 64) (hck : ck < 24) (hrn : rn ≤ 9) (hr : r_cells O W) (h : hcC σ y P so rn ck O W) : ∃ σ', fX8_rainAndDry_2B 5 rec2 σ (nI rn) (nI k) = rec2 σ' (nI rn) (nI (k + 1)) ∧ frS y 5 σ σ' ∧ timeC σ' so rn ck ∧ (∀ a z, a < 64 → z < 4 → σ' 7 (4 * a + z) = nI (if a = k then rnW P so rn ck k (O k) (W k) z else W a z)) ∧ σ' 5 7 = σ 5 7 + rnL rn (O k) (W k) := by
  obtain ⟨hp, hl, ht, hc⟩ := h
  have y44 := fW_ge hl.1
  have he := pile_height (σ := σ) (τ := σ) hp hr (fun k z hk hz => (hc k z hk hz).1) hk
  have tl := topN_le (O k) 4
  unfold fX8_rainAndDry_2B
  rw [hp.1, if_neg (show ¬ (64 : Int32) ≤ nI k from fun q => absurd ((nI_leI (a := 64) (by omega) (by omega)).mp q) (by omega)), he, p_cq, show nI k + 1 = nI (k + 1) from (nI_succ k).symm]
  by_cases t0 : topN (O k) 4 = 0
  · rw [if_pos ((nI_le0 (by omega)).mpr t0)]
    refine ⟨σ, rfl, frS_r _ _ _, ht, fun a z ha hz => ?_, ?_⟩
    · rw [(hc a z ha hz).2.1]
      by_cases q : a = k
      · subst q; rw [if_pos rfl]; unfold rnW; rw [if_neg (by omega)]
      · rw [if_neg q]
    · unfold rnL; rw [if_pos t0]; grind
  obtain ⟨tp, _⟩ := top_pos (O := O k) (n := 4) (by omega)
  generalize ht' : topN (O k) 4 = t at *
  have hz : t - 1 < 4 := by omega
  obtain ⟨c1, c2, c3⟩ := hc k (t - 1) hk hz
  obtain ⟨r1, r2, r3⟩ := hr.1 k (t - 1) hk hz
  have ix : nI k * 4 + nI t - 1 = nI (4 * k + (t - 1)) := by
    rw [show (4 : Int32) = nI 4 from rfl, pk_mul, nI_add]
    have := nI_pred (k * 4 + (t - 1))
    rw [show k * 4 + (t - 1) + 1 = k * 4 + t by omega] at this
    rw [this, Nat.mul_comm]
  rw [if_neg (fun q => by have := (nI_le0 (by omega)).mp q; omega), hp.2.1, ix]
  have cl := capN_le (W k (t - 1) + rn)
  rw [pour_C (b := 5) (w := W k (t - 1)) (f := rn) (by rw [stN_5]; omega) (by rw [stN_5]; omega) (by omega) (by omega) c2, p_cv]
  generalize hA : st_put (st_put σ (5 + 2) (4 * k + (t - 1)) (nI (capN (W k (t - 1) + rn)))) 5 7 (σ 5 7 + nI (W k (t - 1) + rn - capN (W k (t - 1) + rn))) = A
  have fA : frS y 5 σ A := by rw [← hA]; exact frS_t frS_w frS_l
  have tA : timeC A so rn ck := by unfold timeC; rw [← hA, sp_ne (by omega), sp_ne (by omega)]; exact ht
  have wA : A 7 (4 * k + (t - 1)) = nI (capN (W k (t - 1) + rn)) := by rw [← hA, sp_ne (by omega), sp_same, up_same]
  have wB : ∀ j, ¬ j = 4 * k + (t - 1) → A 7 j = σ 7 j := fun j hj => by rw [← hA, sp_ne (by omega), sp_same, up_ne hj]
  obtain ⟨σ1, u1, u2, u3⟩ := heapLaw_C (y := y) (h := 1) (k := k) (z := t - 1) (σ := A) (P := P) (O := O k) (w := capN (W k (t - 1) + rn)) (sort := so) (rain := rn) (clock := ck) (by rw [fA.2 0 (by omega), fA.2 1 (by omega), fA.2 2 (by omega)]; exact hp) (lawsC_S (by omega) hl fA) (by omega) tA hck hk hz (fun z hz => ⟨(hr.1 k z hk hz).1, by rw [fA.1 6 (by omega) (by omega) (by omega) (by omega)]; exact (hc k z hk hz).1⟩) cl.1 wA (by rw [fA.1 8 (by omega) (by omega) (by omega) (by omega)]; exact c3)
  rw [if_neg (show ¬ O k (t - 1) = 0 by omega)] at u1
  have e1 : σ1 7 = A 7 := u2 7 (by omega) (by omega)
  rw [stN_5, p_rdN (by omega) (by omega), show (1 : Int32) = nI 1 from rfl, u1, p_cb, p_rdN (by omega) (by omega), p_wrN (by omega) (by omega), show σ1 (5 + 2) = A 7 from e1, show A (5 + 2) = A 7 from rfl, wA, held_C _ (by omega), pk_sub (heldN_le _ (by omega))]
  refine ⟨_, rfl, frS_t (frS_t fA (frS_2 (by omega) (by omega) u2)) frS_w, by unfold timeC; rw [sp_ne (by omega)]; exact u3, fun a z ha hz' => ?_, ?_⟩
  · rw [show (5 + 2) = 7 from rfl, sp_same]
    by_cases q : a = k
    · subst q
      rw [if_pos rfl]
      unfold rnW
      by_cases q' : z = t - 1
      · subst q'
        rw [up_same, if_pos (by omega), ht']
      · rw [up_ne (by omega), if_neg (by omega), e1, wB _ (by omega)]; exact (hc a z ha hz').2.1
    · rw [if_neg q, up_ne (by omega), e1, wB _ (by omega)]; exact (hc a z ha hz').2.1
  · rw [sp_ne (by omega), u2 5 (by omega) (by omega), ← hA, sp_same, up_same]
    unfold rnL
    rw [ht', if_neg t0]
theorem rain_allC {y so rn ck : Nat} {P : Pg} {σ0 : St} {O W : Nat → Nat → Nat} (hck : ck < 24) (hrn : rn ≤ 9) (hr : r_cells O W) (h0 : hcC σ0 y P so rn ck O W) : ∀ (d k f : Nat) (σ : St), k + d = 64 → d < f → frS y 5 σ0 σ → timeC σ so rn ck → (∀ a z, a < 64 → z < 4 → σ 7 (4 * a + z) = nI (if a < k then rnW P so rn ck a (O a) (W a) z else W a z)) → ∃ σ', fX8_rainAndDry_2 5 f σ (nI rn) (nI k) = some σ' ∧ frS y 5 σ0 σ' ∧ timeC σ' so rn ck ∧ (∀ a z, a < 64 → z < 4 → σ' 7 (4 * a + z) = nI (rnW P so rn ck a (O a) (W a) z)) ∧ σ' 5 7 = σ 5 7 + sumI (fun k => rnL rn (O k) (W k)) k d := by
  obtain ⟨hp, hl, ht, hc⟩ := h0
  have y44 := fW_ge hl.1
  intro d
  induction d with
  | zero =>
    intro k f σ h1 h2 hf hT hw
    obtain ⟨f, rfl⟩ : ∃ g, f = g + 1 := ⟨f - 1, by omega⟩
    have : k = 64 := by omega
    subst this
    rw [rd_s]; unfold fX8_rainAndDry_2B
    rw [hf.2 0 (by omega), hp.1, if_pos (show (64 : Int32) ≤ nI 64 by decide)]
    refine ⟨σ, rfl, hf, hT, fun a i ha hi => by rw [hw a i ha hi, if_pos ha], ?_⟩
    show σ 5 7 = σ 5 7 + 0
    grind
  | succ d ih =>
    intro k f σ h1 h2 hf hT hw
    obtain ⟨f, rfl⟩ : ∃ g, f = g + 1 := ⟨f - 1, by omega⟩
    have hk : k < 64 := by omega
    rw [rd_s]
    have rle : ∀ a z, a < 64 → z < 4 → rnW P so rn ck a (O a) (W a) z ≤ 9999 ∧ (O a z = 0 → rnW P so rn ck a (O a) (W a) z = 0) := by
      intro a z ha hz
      obtain ⟨r1, r2, r3⟩ := hr.1 a z ha hz
      unfold rnW
      by_cases q : z + 1 = topN (O a) 4
      · rw [if_pos q]
        have := capN_le (W a z + rn)
        refine ⟨by omega, fun q' => ?_⟩
        obtain ⟨tp, _⟩ := top_pos (O := O a) (n := 4) (by omega)
        rw [← q, Nat.add_sub_cancel] at tp
        omega
      · rw [if_neg q]; exact ⟨r2, r3⟩
    have hr' : r_cells O (fun a z => if a < k then rnW P so rn ck a (O a) (W a) z else W a z) := by
      refine ⟨fun a z ha hz => ?_, hr.2⟩
      obtain ⟨r1, r2, r3⟩ := hr.1 a z ha hz
      obtain ⟨q1, q2⟩ := rle a z ha hz
      refine ⟨r1, ?_, fun h => ?_⟩
      · show (if a < k then rnW P so rn ck a (O a) (W a) z else W a z) ≤ 9999
        split <;> omega
      · show (if a < k then rnW P so rn ck a (O a) (W a) z else W a z) = 0
        split
        · exact q2 h
        · exact r3 h
    obtain ⟨σ1, u1, u2, u3, u4, u5⟩ := rain_colC (rec2 := fX8_rainAndDry_2 5 f) (σ := σ) (W := fun a z => if a < k then rnW P so rn ck a (O a) (W a) z else W a z) hk hck hrn hr' ⟨by rw [hf.2 0 (by omega), hf.2 1 (by omega), hf.2 2 (by omega)]; exact hp, lawsC_S (by omega) hl hf, hT, fun a z ha hz => ⟨by rw [hf.1 6 (by omega) (by omega) (by omega) (by omega)]; exact (hc a z ha hz).1, hw a z ha hz, by rw [hf.1 8 (by omega) (by omega) (by omega) (by omega)]; exact (hc a z ha hz).2.2⟩⟩
    have ek : (fun z => if k < k then rnW P so rn ck k (O k) (W k) z else W k z) = W k := by
      funext z; rw [if_neg (by omega)]
    simp only [ek] at u4 u5
    obtain ⟨σ2, v1, v2, v3, v4, v5⟩ := ih (k + 1) f σ1 (by omega) (by omega) (frS_t hf u2) u3 (by
      intro a z ha hz
      rw [u4 a z ha hz]
      by_cases q : a = k
      · subst q; rw [if_pos rfl, if_pos (by omega)]
      · rw [if_neg q]
        by_cases q' : a < k
        · rw [if_pos q', if_pos (by omega)]
        · rw [if_neg q', if_neg (by omega)])
    refine ⟨σ2, by rw [u1, v1], v2, v3, v4, ?_⟩
    rw [v5, u5]
    show σ 5 7 + rnL rn (O k) (W k) + sumI (fun k => rnL rn (O k) (W k)) (k + 1) d = σ 5 7 + (rnL rn (O k) (W k) + sumI (fun k => rnL rn (O k) (W k)) (k + 1) d)
    grind
/-! the model -/
theorem hh2_s (f : Nat) (τ : St) (x : Int32) : fX11_heapHour_2 (f + 1) τ x = fX11_heapHour_2B (fX11_heapHour_2 f) τ x := rfl
theorem rain_colM {so rn N k : Nat} {P : Pg} {τ : St} {O W : Nat → Nat → Nat} {rec2 : St → Int32 → Option St} (hk : k < 64) (hN : N < 720) (hrn : rn ≤ 9) (hr : r_cells O W) (h : hcM τ P N so rn O W) : ∃ τ', fX11_heapHour_2B rec2 τ (nI (sw k)) = rec2 τ' (nI (sw k + 1)) ∧ frM τ τ' ∧ (∀ a z, a < 64 → z < 4 → τ' 4 (64 * z + sw a) = nI (if a = k then rnW P so rn (N % 24) k (O k) (W k) z else W a z)) ∧ τ' 0 11 = τ 0 11 + rnL rn (O k) (W k) := by
  have h' := h
  obtain ⟨hn, hs, hr1, hl, hc⟩ := h
  have hsw := sw_lt hk
  have he := heapHeightM (τ := τ) (O := O k) hsw (fun z hz => ⟨(hr.1 k z hk hz).1, (hc k z hk hz).1⟩) (fun z hz => hr.2 k z hk (by omega))
  have tl := topN_le (O k) 4
  have dv : nI N / 24 = nI (N / 24) := by rw [show (24 : Int32) = nI 24 from rfl, pk_div (by omega) (by omega) (by omega)]
  unfold fX11_heapHour_2B
  rw [if_neg (show ¬ (64 : Int32) ≤ nI (sw k) from fun q => absurd ((nI_leI (a := 64) (by omega) (by omega)).mp q) (by omega)), he, p_cq, show nI (sw k) + 1 = nI (sw k + 1) from (nI_succ _).symm]
  by_cases t0 : topN (O k) 4 = 0
  · rw [if_pos ((nI_e0 (by omega)).mpr t0)]
    refine ⟨τ, rfl, frM_r _, fun a z ha hz => ?_, ?_⟩
    · rw [(hc a z ha hz).2]
      by_cases q : a = k
      · subst q; rw [if_pos rfl]; unfold rnW; rw [if_neg (by omega)]
      · rw [if_neg q]
    · unfold rnL; rw [if_pos t0]; grind
  obtain ⟨tp, _⟩ := top_pos (O := O k) (n := 4) (by omega)
  generalize ht' : topN (O k) 4 = t at *
  have hz : t - 1 < 4 := by omega
  obtain ⟨c1, c2⟩ := hc k (t - 1) hk hz
  obtain ⟨r1, r2, r3⟩ := hr.1 k (t - 1) hk hz
  have ix : 64 * nI t - 64 + nI (sw k) = nI (64 * (t - 1) + sw k) := by
    rw [show (64 : Int32) = nI 64 from rfl, pk_mul, pk_sub (by omega), nI_add]; congr 1; omega
  have cl := capN_le (W k (t - 1) + rn)
  rw [if_neg (fun q => t0 ((nI_e0 (by omega)).mp q)), ix, p_rdN (by omega) (by omega), hn, dv, p_rdN (by omega) (by omega), p_rdN (by omega) (by omega), p_rdN (by omega) (by omega), c2, hr1, more_M (by omega) (by omega), p_wrN (by omega) (by omega), p_rdN (by omega) (by omega), p_nmS, sp_same, up_same, nI_add, sp_ne (a := 0) (by omega)]
  generalize hA : st_put (st_put τ 4 (64 * (t - 1) + sw k) (nI (capN (W k (t - 1) + rn)))) 0 11 (τ 0 11 + nI (W k (t - 1) + rn) - nI (capN (W k (t - 1) + rn))) = A
  have fA : frM τ A := by rw [← hA]; exact frM_t frM_w frM_l
  have wA : A 4 (64 * (t - 1) + sw k) = nI (capN (W k (t - 1) + rn)) := by rw [← hA, sp_ne (by omega), sp_same, up_same]
  have wB : ∀ j, ¬ j = 64 * (t - 1) + sw k → A 4 j = τ 4 j := fun j hj => by rw [← hA, sp_ne (by omega), sp_same, up_ne hj]
  obtain ⟨τ1, v1, v2, v3⟩ := takesHeap_M (τ := A) (k := k) (z := t - 1) (w := capN (W k (t - 1) + rn)) (N := N) (sort := so) (rain := rn) (O := O k) hk hz cl.1 hN (by rw [fA.2 1 (by omega)]; exact hn) (by rw [fA.2 2 (by omega)]; exact hs) (by rw [fA.1 1 (by omega) (by omega) (by omega) (by omega) (by omega)]; exact hr1) (fun z hz => ⟨(hr.1 k z hk hz).1, by rw [fA.1 3 (by omega) (by omega) (by omega) (by omega) (by omega)]; exact (hc k z hk hz).1⟩) (fun z hz => hr.2 k z hk (by omega)) wA
  obtain ⟨τ2, w1, w2⟩ := lawOf_M2 (h := 1) (lawsM_f hl fA) (by omega) v2 v3
  have e2 : τ2 4 = A 4 := w2 4 (by omega) (by omega)
  have e1 : τ1 4 = A 4 := v2 4 (by omega)
  rw [v1, p_cv, p_rdN (by omega) (by omega), show fX11_lawOf τ1 1 = _ from w1, p_cb, p_rdN (by omega) (by omega), p_wrN (by omega) (by omega), e1, e2, wA, cut_M _ (by omega), pk_sub (heldN_le _ (by omega))]
  refine ⟨_, rfl, frM_t (frM_t fA (frM_2 w2)) frM_w, fun a z ha hz' => ?_, ?_⟩
  · rw [sp_same]
    by_cases q : a = k
    · subst q
      rw [if_pos rfl]
      unfold rnW
      by_cases q' : z = t - 1
      · subst q'
        rw [up_same, if_pos (by omega), ht']
      · rw [up_ne (by omega), if_neg (by omega), e2, wB _ (by omega)]; exact (hc a z ha hz').2
    · have : ¬ sw a = sw k := fun e => q (sw_inj ha hk e)
      have := sw_lt ha
      rw [if_neg q, up_ne (by omega), e2, wB _ (by omega)]; exact (hc a z ha hz').2
  · rw [sp_ne (by omega), w2 0 (by omega) (by omega), ← hA, sp_same, up_same]
    unfold rnL
    rw [ht', if_neg t0, ← sub_cap]
    grind
theorem rain_allM {so rn N : Nat} {P : Pg} {τ0 : St} {O W : Nat → Nat → Nat} (hN : N < 720) (hrn : rn ≤ 9) (hr : r_cells O W) (h0 : hcM τ0 P N so rn O W) : ∀ (d m f : Nat) (τ : St), m + d = 64 → d < f → frM τ0 τ → (∀ a z, a < 64 → z < 4 → τ 4 (64 * z + sw a) = nI (if sw a < m then rnW P so rn (N % 24) a (O a) (W a) z else W a z)) → ∃ τ', fX11_heapHour_2 f τ (nI m) = fX11_heapHour_139 FU τ' 0 ∧ frM τ0 τ' ∧ (∀ a z, a < 64 → z < 4 → τ' 4 (64 * z + sw a) = nI (rnW P so rn (N % 24) a (O a) (W a) z)) ∧ τ' 0 11 = τ 0 11 + sumI (fun m => rnL rn (O (sw m)) (W (sw m))) m d := by
  intro d
  induction d with
  | zero =>
    intro m f τ h1 h2 hf hw
    obtain ⟨f, rfl⟩ : ∃ g, f = g + 1 := ⟨f - 1, by omega⟩
    have : m = 64 := by omega
    subst this
    rw [hh2_s]; unfold fX11_heapHour_2B
    rw [if_pos (show (64 : Int32) ≤ nI 64 by decide)]
    refine ⟨τ, rfl, hf, fun a i ha hi => by rw [hw a i ha hi, if_pos (sw_lt ha)], ?_⟩
    show τ 0 11 = τ 0 11 + 0
    grind
  | succ d ih =>
    intro m f τ h1 h2 hf hw
    obtain ⟨f, rfl⟩ : ∃ g, f = g + 1 := ⟨f - 1, by omega⟩
    obtain ⟨k, hk, hkm⟩ : ∃ k, k < 64 ∧ sw k = m := ⟨sw m, sw_lt (by omega), sw_sw (by omega)⟩
    subst hkm
    rw [hh2_s]
    have hr' : r_cells O (fun a z => if sw a < sw k then rnW P so rn (N % 24) a (O a) (W a) z else W a z) := by
      refine ⟨fun a z ha hz => ?_, hr.2⟩
      obtain ⟨r1, r2, r3⟩ := hr.1 a z ha hz
      have q : rnW P so rn (N % 24) a (O a) (W a) z ≤ 9999 ∧ (O a z = 0 → rnW P so rn (N % 24) a (O a) (W a) z = 0) := by
        unfold rnW
        by_cases q : z + 1 = topN (O a) 4
        · rw [if_pos q]
          have := capN_le (W a z + rn)
          refine ⟨by omega, fun q' => ?_⟩
          obtain ⟨tp, _⟩ := top_pos (O := O a) (n := 4) (by omega)
          rw [← q, Nat.add_sub_cancel] at tp
          omega
        · rw [if_neg q]; exact ⟨r2, r3⟩
      refine ⟨r1, ?_, fun h => ?_⟩
      · show (if sw a < sw k then rnW P so rn (N % 24) a (O a) (W a) z else W a z) ≤ 9999
        split <;> omega
      · show (if sw a < sw k then rnW P so rn (N % 24) a (O a) (W a) z else W a z) = 0
        split
        · exact q.2 h
        · exact r3 h
    obtain ⟨τ1, u1, u2, u4, u5⟩ := rain_colM (rec2 := fX11_heapHour_2 f) (τ := τ) (W := fun a z => if sw a < sw k then rnW P so rn (N % 24) a (O a) (W a) z else W a z) hk hN hrn hr' (hcM_f h0 hf hw)
    have ek : (fun z => if sw k < sw k then rnW P so rn (N % 24) k (O k) (W k) z else W k z) = W k := by
      funext z; rw [if_neg (by omega)]
    simp only [ek] at u4 u5
    obtain ⟨τ2, v1, v2, v4, v5⟩ := ih (sw k + 1) f τ1 (by omega) (by omega) (frM_t hf u2) (by
      intro a z ha hz
      rw [u4 a z ha hz]
      by_cases q : a = k
      · subst q; rw [if_pos rfl, if_pos (by omega)]
      · have : ¬ sw a = sw k := fun e => q (sw_inj ha hk e)
        rw [if_neg q]
        by_cases q' : sw a < sw k
        · rw [if_pos q', if_pos (by omega)]
        · rw [if_neg q', if_neg (by omega)])
    refine ⟨τ2, by rw [u1, v1], v2, v4, ?_⟩
    rw [v5, u5]
    show τ 0 11 + rnL rn (O k) (W k) + sumI (fun m => rnL rn (O (sw m)) (W (sw m))) (sw k + 1) d = τ 0 11 + (rnL rn (O (sw (sw k))) (W (sw (sw k))) + sumI (fun m => rnL rn (O (sw m)) (W (sw m))) (sw k + 1) d)
    rw [sw_sw hk]
    grind
