/-! the laws at a cell -/
theorem p_wrL {α : Type} {n : Nat} {σ : St} {k : Nat} {v : Int32} (i : Int32) (j : Nat) (e : i = nI j) (hj : j < n) (hn : n < 2147483648) (K : St → Option α) : wrK n σ k i v K = K (st_put σ k j v) := by subst e; exact p_wrN hj hn K
theorem p_rdL {α : Type} {n : Nat} {f : Nat → Int32} (i : Int32) (j : Nat) (e : i = nI j) (hj : j < n) (hn : n < 2147483648) (K : Int32 → Option α) : rdK n f i K = K (f j) := by subst e; exact p_rdN hj hn K
def envW (o w z sort rain clock k lit : Nat) : Nat → Int32 := fun n => if n = 0 then nI (wetN o w) else if n = 1 then nI w else if n = 2 then nI o else if n = 3 then nI z else if n = 4 then nI sort else if n = 5 then nI rain else if n = 6 then nI clock else if n = 7 then nI k else nI lit
theorem envW_of {f : Nat → Int32} {o w z sort rain clock k lit : Nat} (h0 : f 0 = nI (wetN o w)) (h1 : f 1 = nI w) (h2 : f 2 = nI o) (h3 : f 3 = nI z) (h4 : f 4 = nI sort) (h5 : f 5 = nI rain) (h6 : f 6 = nI clock) (h7 : f 7 = nI k) (h8 : f 8 = nI lit) : ∀ j, j < 9 → f j = envW o w z sort rain clock k lit j := by
  intro j hj
  have : j = 0 ∨ j = 1 ∨ j = 2 ∨ j = 3 ∨ j = 4 ∨ j = 5 ∨ j = 6 ∨ j = 7 ∨ j = 8 := by omega
  rcases this with rfl | rfl | rfl | rfl | rfl | rfl | rfl | rfl | rfl
  · exact h0
  · exact h1
  · exact h2
  · exact h3
  · exact h4
  · exact h5
  · exact h6
  · exact h7
  · exact h8
def timeC (σ : St) (sort rain clock : Nat) : Prop := σ 29 4 = nI sort ∧ σ 29 5 = nI rain ∧ σ 29 6 = nI clock
def lawsC (σ : St) (y : Nat) (P : Pg) : Prop := fW y ∧ okPg 9 4 mpL P ∧ σ 28 0 = nI y ∧ r_wordsAt σ y P
/-- what asking a law may change -/
def same2 (x y : Nat) (σ σ' : St) : Prop := ∀ a, ¬ a = x → ¬ a = y → σ' a = σ a
theorem same2_r (x y : Nat) (σ : St) : same2 x y σ σ := fun _ _ _ => rfl
theorem same2_t {x y : Nat} {σ σ' σ'' : St} (h : same2 x y σ σ') (h' : same2 x y σ' σ'') : same2 x y σ σ'' := fun a ha hb => by rw [h' a ha hb, h a ha hb]
theorem fW_ge {y : Nat} (h : fW y) : 44 ≤ y := by rcases h with rfl | rfl | rfl <;> omega
theorem lawsC_fr {σ σ' : St} {y : Nat} {P : Pg} (h : lawsC σ y P) (h28 : σ' 28 = σ 28) (hs : ∀ a, y ≤ a → a < y + 6 → σ' a = σ a) : lawsC σ' y P := by
  obtain ⟨h1, h2, h3, h4⟩ := h
  refine ⟨h1, h2, by rw [h28]; exact h3, ?_⟩
  unfold r_wordsAt at *
  rw [hs y (by omega) (by omega), hs (y + 1) (by omega) (by omega), hs (y + 2) (by omega) (by omega), hs (y + 3) (by omega) (by omega), hs (y + 4) (by omega) (by omega), hs (y + 5) (by omega) (by omega)]
  exact h4
theorem lawsC_2 {σ σ' : St} {y : Nat} {P : Pg} (h : lawsC σ y P) (hs : same2 29 (y + 6) σ σ') : lawsC σ' y P := by
  have := fW_ge h.1
  exact lawsC_fr h (hs 28 (by omega) (by omega)) (fun a h1 h2 => hs a (by omega) (by omega))
/-- the light, then the laws -/
theorem light_C {b y h lit : Nat} {σ : St} {P : Pg} {o w z sort rain clock k : Nat} (hl : lawsC σ y P) (hh : h < 4) (hlit : lit ≤ 1) (ht : timeC σ sort rain clock) (h0 : σ 29 0 = nI (wetN o w)) (h1 : σ 29 1 = nI w) (h2 : σ 29 2 = nI o) (h3 : σ 29 3 = nI z) (h7 : σ 29 7 = nI k) : ∃ σ', fX8_lawOf_80 b σ (nI h) (nI lit) = some (lawV (envW o w z sort rain clock k lit) h P, σ') ∧ same2 29 (y + 6) σ σ' ∧ timeC σ' sort rain clock := by
  have y44 := fW_ge hl.1
  have sl : fX2_setLight σ (nI lit) = some (st_put σ 29 8 (nI lit)) := by
    unfold fX2_setLight fX2_setLight_15
    rcases (show lit = 0 ∨ lit = 1 by omega) with rfl | rfl
    · rw [if_pos (show nI 0 = 0 from rfl), p_wrL 8 8 rfl (by omega) (by omega)]; rfl
    · rw [if_neg (show ¬ nI 1 = 0 by decide), p_wrL 8 8 rfl (by omega) (by omega)]; rfl
  have s1 : same2 29 (y + 6) σ (st_put σ 29 8 (nI lit)) := fun a ha _ => sp_ne ha
  have u : ∀ j, ¬ j = 8 → st_put σ 29 8 (nI lit) 29 j = σ 29 j := fun j hj => by rw [sp_same, up_ne hj]
  obtain ⟨q1, q2, q3, q4⟩ := lawsC_2 hl s1
  obtain ⟨σ', e1, e2⟩ := comes_C (env := envW o w z sort rain clock k lit) q1 q2 hh P.length 0 FU (st_put σ 29 8 (nI lit)) (by omega) (by rw [FU_eq]; have := q2.1; omega) q3 q4 (envW_of (by rw [u 0 (by omega)]; exact h0) (by rw [u 1 (by omega)]; exact h1) (by rw [u 2 (by omega)]; exact h2) (by rw [u 3 (by omega)]; exact h3) (by rw [u 4 (by omega)]; exact ht.1) (by rw [u 5 (by omega)]; exact ht.2.1) (by rw [u 6 (by omega)]; exact ht.2.2) (by rw [u 7 (by omega)]; exact h7) (by rw [sp_same, up_same]))
  refine ⟨σ', ?_, fun a ha hb => by rw [e2 a hb, sp_ne ha], ?_⟩
  · unfold fX8_lawOf_80 fX2_comesTo
    rw [sl, p_cv, show (0 : Int32) = nI 0 from rfl, e1, p_cb, List.drop_zero]
  · unfold timeC
    rw [e2 29 (by omega), u 4 (by omega), u 5 (by omega), u 6 (by omega)]
    exact ht
theorem setCell_C {σ : St} {o w z k : Nat} (ho : 0 < o ∧ o < 1000) (hw : w < 100000) : ∃ σ', fX2_setCell σ (nI o) (nI w) (nI z) (nI k) = some σ' ∧ sameX 29 σ σ' ∧ σ' 29 0 = nI (wetN o w) ∧ σ' 29 1 = nI w ∧ σ' 29 2 = nI o ∧ σ' 29 3 = nI z ∧ σ' 29 7 = nI k ∧ σ' 29 4 = σ 29 4 ∧ σ' 29 5 = σ 29 5 ∧ σ' 29 6 = σ 29 6 := by
  unfold fX2_setCell fX2_setCell_16
  rw [if_neg (fun q => by have := (nI_le0 (by omega)).mp q; omega), p_nz (fun q => by have := (nI_e0 (by omega)).mp q; omega), p_wrL 0 0 rfl (by omega) (by omega), p_wrL 1 1 rfl (by omega) (by omega), p_wrL 2 2 rfl (by omega) (by omega), p_wrL 3 3 rfl (by omega) (by omega), p_wrL 7 7 rfl (by omega) (by omega), wet_div (by omega) (by omega) (by omega)]
  refine ⟨_, rfl, fun a ha => by rw [sp_ne ha, sp_ne ha, sp_ne ha, sp_ne ha, sp_ne ha], ?_, ?_, ?_, ?_, ?_, ?_, ?_, ?_⟩ <;> simp [st_put, st_row, upd]
/-- a cell of the holds -/
theorem shipLaw_C {b y h j : Nat} {σ : St} {P : Pg} {o w sort rain clock k : Nat} (hb : b = 12 ∨ b = 19) (hs : r_stk (σ b)) (hl : lawsC σ y P) (hh : h < 4) (ht : timeC σ sort rain clock) (hj : j < 144) (ho : o ≤ 99) (hw : w ≤ 9999) (e1 : σ (b + 1) j = nI o) (e2 : σ (b + 2) j = nI w) (e3 : σ (b + 3) j = nI k) : ∃ σ', fX8_lawOf b σ (nI h) (nI j) = some (if o = 0 then 0 else lawV (envW o w (j % 6) sort rain clock k 0) h P, σ') ∧ same2 29 (y + 6) σ σ' ∧ timeC σ' sort rain clock := by
  have y44 := fW_ge hl.1
  have sb : stN b = 144 := by rcases hb with rfl | rfl <;> rfl
  unfold fX8_lawOf
  rw [hs.2.1, if_neg (show ¬ (6 : Int32) < 1 by decide), sb, p_rdN hj (by omega), e1]
  by_cases c : o = 0
  · rw [if_pos ((nI_e0 (by omega)).mpr c), if_pos c]
    exact ⟨σ, rfl, same2_r _ _ _, ht⟩
  rw [if_neg (fun q => c ((nI_e0 (by omega)).mp q)), if_neg c, p_nz (show ¬ (6 : Int32) = 0 by decide), p_rdN hj (by omega), p_rdN hj (by omega), p_rdN hj (by omega), e1, e2, e3]
  have rm : nI j - nI j / 6 * 6 = nI (j % 6) := pk_rem (d := 6) (by omega) (by omega) (by omega)
  rw [rm]
  obtain ⟨σ1, s1, s2, f0, f1, f2, f3, f7, f4, f5, f6⟩ := setCell_C (σ := σ) (o := o) (w := w) (z := j % 6) (k := k) (by omega) (by omega)
  have bn : ¬ b = 29 := by rcases hb with rfl | rfl <;> omega
  have st1 : same2 29 (y + 6) σ σ1 := fun a ha _ => s2 a ha
  rw [s1, p_cv, s2 b bn, hs.2.2, if_pos rfl]
  unfold fX8_lawOf_79
  obtain ⟨σ2, g1, g2, g3⟩ := light_C (b := b) (h := h) (lit := 0) (σ := σ1) (lawsC_2 hl st1) hh (by omega) (sort := sort) (rain := rain) (clock := clock) ⟨by rw [f4]; exact ht.1, by rw [f5]; exact ht.2.1, by rw [f6]; exact ht.2.2⟩ f0 f1 f2 f3 f7
  exact ⟨σ2, g1, same2_t st1 g2, g3⟩
/-- whether the sun comes to a cell of the heap -/
def litN (k clock z top : Nat) : Nat := if k / 8 < 4 then (if (6 ≤ clock ∧ clock < 12) ∧ z + 1 = top then 1 else 0) else (if (12 ≤ clock ∧ clock < 18) ∧ z + 1 = top then 1 else 0)
theorem litN_le (k clock z top : Nat) : litN k clock z top ≤ 1 := by
  unfold litN
  split <;> split <;> omega
theorem within_sub {c f : Nat} (hc : c < 1000) (hf : f < 1000) : fX10_within (nI c - nI f) 6 = if f ≤ c ∧ c < f + 6 then 1 else 0 := by
  rw [within_iff]
  have e : (nI c - nI f).toInt = (c : Int) - f := pk_sub_toInt (by omega) (by omega)
  have : (0 ≤ nI c - nI f ∧ nI c - nI f < 6) ↔ (f ≤ c ∧ c < f + 6) := by
    rw [Int32.le_iff_toInt_le, Int32.lt_iff_toInt_lt, e]
    simp
    omega
  by_cases q : f ≤ c ∧ c < f + 6
  · rw [if_pos (this.mpr q), if_pos q]
  · rw [if_neg (fun w => q (this.mp w)), if_neg q]
theorem isLit_C {σ : St} {k z clock top : Nat} (hk : k < 64) (hz : z < 4) (hc : clock < 24) (ht : σ 29 6 = nI clock) (hh : fX8_height 5 σ (nI k) = some (nI top)) (htop : top ≤ 4) : fX8_isLit 5 σ (nI k) (nI z) = some (nI (litN k clock z top)) := by
  unfold fX8_isLit fX8_isLit_15 fX2_clock
  have dv : nI k / 8 = nI (k / 8) := by rw [show (8 : Int32) = nI 8 from rfl, pk_div (by omega) (by omega) (by omega)]
  rw [dv, p_rdL 6 6 rfl (by omega) (by omega), ht]
  simp only [p_cq, hh]
  rw [show (12 : Int32) = nI 12 from rfl, show nI clock - 6 = nI clock - nI 6 from rfl, within_sub (by omega) (by omega), within_sub (by omega) (by omega), show nI z + 1 = nI (z + 1) from (nI_succ z).symm]
  unfold litN
  by_cases c : k / 8 < 4
  · rw [if_neg (show ¬ (4 : Int32) ≤ nI (k / 8) from fun q => absurd ((nI_leI (a := 4) (b := k / 8) (by omega) (by omega)).mp q) (by omega)), if_pos c]
    by_cases d : 6 ≤ clock ∧ clock < 12
    · rw [if_pos (show 6 ≤ clock ∧ clock < 6 + 6 by omega), if_neg n10]
      by_cases e : z + 1 = top
      · rw [if_pos (by rw [e]), if_pos ⟨d, e⟩]; rfl
      · rw [if_neg (fun q => e ((nI_eq (by omega) (by omega)).mp q)), if_neg (fun q => e q.2)]; rfl
    · rw [if_neg (show ¬ (6 ≤ clock ∧ clock < 6 + 6) by omega), if_pos rfl, if_neg (fun q => d q.1)]; rfl
  · rw [if_pos (show (4 : Int32) ≤ nI (k / 8) from nI_le (a := 4) (by omega) (by omega)), if_neg c]
    by_cases d : 12 ≤ clock ∧ clock < 18
    · rw [if_pos (show 12 ≤ clock ∧ clock < 12 + 6 by omega), if_neg n10]
      by_cases e : z + 1 = top
      · rw [if_pos (by rw [e]), if_pos ⟨d, e⟩]; rfl
      · rw [if_neg (fun q => e ((nI_eq (by omega) (by omega)).mp q)), if_neg (fun q => e q.2)]; rfl
    · rw [if_neg (show ¬ (12 ≤ clock ∧ clock < 12 + 6) by omega), if_pos rfl, if_neg (fun q => d q.1)]; rfl
/-- a cell of the heap -/
theorem heapLaw_C {y h k z : Nat} {σ : St} {P : Pg} {O : Nat → Nat} {w sort rain clock : Nat} (hp : σ 5 0 = 64 ∧ σ 5 1 = 4 ∧ σ 5 2 = 1) (hl : lawsC σ y P) (hh : h < 4) (ht : timeC σ sort rain clock) (hc : clock < 24) (hk : k < 64) (hz : z < 4) (hO : ∀ z, z < 4 → O z ≤ 99 ∧ σ 6 (4 * k + z) = nI (O z)) (hw : w ≤ 9999) (e2 : σ 7 (4 * k + z) = nI w) (e3 : σ 8 (4 * k + z) = 0) : ∃ σ', fX8_lawOf 5 σ (nI h) (nI (4 * k + z)) = some (if O z = 0 then 0 else lawV (envW (O z) w z sort rain clock 0 (litN k clock z (topN O 4))) h P, σ') ∧ same2 29 (y + 6) σ σ' ∧ timeC σ' sort rain clock := by
  have y44 := fW_ge hl.1
  obtain ⟨o1, o2⟩ := hO z hz
  unfold fX8_lawOf
  rw [hp.2.1, if_neg (show ¬ (4 : Int32) < 1 by decide), stN_5, p_rdN (by omega) (by omega), show σ (5 + 1) (4 * k + z) = nI (O z) from o2]
  by_cases c : O z = 0
  · rw [if_pos ((nI_e0 (by omega)).mpr c), if_pos c]
    exact ⟨σ, rfl, same2_r _ _ _, ht⟩
  rw [if_neg (fun q => c ((nI_e0 (by omega)).mp q)), if_neg c, p_nz (show ¬ (4 : Int32) = 0 by decide), p_rdN (by omega) (by omega), p_rdN (by omega) (by omega), p_rdN (by omega) (by omega), show σ (5 + 1) (4 * k + z) = nI (O z) from o2, show σ (5 + 2) (4 * k + z) = nI w from e2, show σ (5 + 3) (4 * k + z) = 0 from e3]
  have dv : nI (4 * k + z) / 4 = nI k := by rw [show (4 : Int32) = nI 4 from rfl, pk_div (by omega) (by omega) (by omega)]; congr 1; omega
  have rm : nI (4 * k + z) - nI k * 4 = nI z := by
    rw [show (4 : Int32) = nI 4 from rfl, pk_mul, pk_sub (by omega)]; congr 1; omega
  rw [dv, rm]
  obtain ⟨σ1, s1, s2, f0, f1, f2, f3, f7, f4, f5, f6⟩ := setCell_C (σ := σ) (o := O z) (w := w) (z := z) (k := 0) (by omega) (by omega)
  have st1 : same2 29 (y + 6) σ σ1 := fun a ha _ => s2 a ha
  have he := height_spec (b := 5) (k := k) (c := 64) (l := 4) (σ := σ1) (O := O) (by rw [s2 5 (by omega)]; exact hp.1) hk (by omega) (by rw [s2 5 (by omega)]; exact hp.2.1) (by rw [stN_5]; omega) (by rw [stN_5]; omega) (by omega) (fun z hz => ⟨by have := (hO z hz).1; omega, by rw [s2 (5 + 1) (by omega), Nat.mul_comm k 4]; exact (hO z hz).2⟩)
  have lt := isLit_C (σ := σ1) (k := k) (z := z) (clock := clock) hk hz hc (by rw [f6]; exact ht.2.2) he (topN_le O 4)
  rw [show (0 : Int32) = nI 0 from rfl, s1, p_cv, s2 5 (by omega), hp.2.1, hp.2.2, show nI 0 = (0 : Int32) from rfl, if_neg n10, p_nz (show ¬ (4 : Int32) = 0 by decide), dv, lt, p_cq]
  obtain ⟨σ2, g1, g2, g3⟩ := light_C (b := 5) (h := h) (lit := litN k clock z (topN O 4)) (σ := σ1) (lawsC_2 hl st1) hh (litN_le _ _ _ _) (sort := sort) (rain := rain) (clock := clock) ⟨by rw [f4]; exact ht.1, by rw [f5]; exact ht.2.1, by rw [f6]; exact ht.2.2⟩ f0 f1 f2 f3 f7
  refine ⟨σ2, ?_, same2_t st1 g2, g3⟩
  have ll := litN_le k clock z (topN O 4)
  unfold fX8_lawOf_79
  rcases (show litN k clock z (topN O 4) = 0 ∨ litN k clock z (topN O 4) = 1 by omega) with q | q
  · rw [q] at g1 ⊢
    rw [if_pos (show nI 0 = 0 from rfl)]; exact g1
  · rw [q] at g1 ⊢
    rw [if_neg (show ¬ nI 1 = 0 by decide)]; exact g1
/-! the model's side -/
theorem takesHour_M {τ : St} {o w z t sort rain : Nat} (ho : o < 1000) (hw : w < 100000) (ht : t < 720) (hs : τ 0 2 = nI sort) (hr : τ 1 (t / 24) = nI rain) : ∃ τ', fX11_takesHour τ (nI o) (nI w) (nI z) (nI t) = some τ' ∧ sameX 24 τ τ' ∧ τ' 24 0 = nI (wetN o w) ∧ τ' 24 1 = nI w ∧ τ' 24 2 = nI o ∧ τ' 24 3 = nI z ∧ τ' 24 4 = nI sort ∧ τ' 24 5 = nI rain ∧ τ' 24 6 = nI (t % 24) := by
  unfold fX11_takesHour
  have dv : nI t / 24 = nI (t / 24) := by rw [show (24 : Int32) = nI 24 from rfl, pk_div (by omega) (by omega) (by omega)]
  have rm : nI t - nI t / 24 * 24 = nI (t % 24) := pk_rem (d := 24) (by omega) (by omega) (by omega)
  rw [rm, dv, wetOf_spec ho hw, p_cq, p_wrL 0 0 rfl (by omega) (by omega), p_wrL 1 1 rfl (by omega) (by omega), p_wrL 2 2 rfl (by omega) (by omega), p_wrL 3 3 rfl (by omega) (by omega), p_wrL 4 4 rfl (by omega) (by omega), p_rdN (by omega) (by omega), p_wrL 5 5 rfl (by omega) (by omega), p_wrL 6 6 rfl (by omega) (by omega)]
  refine ⟨_, rfl, fun a ha => by rw [sp_ne ha, sp_ne ha, sp_ne ha, sp_ne ha, sp_ne ha, sp_ne ha, sp_ne ha], ?_, ?_, ?_, ?_, ?_, ?_, ?_⟩
  · simp [st_put, st_row, upd]
  · simp [st_put, st_row, upd]
  · simp [st_put, st_row, upd]
  · simp [st_put, st_row, upd]
  · simpa [st_put, st_row, upd] using hs
  · simpa [st_put, st_row, upd] using hr
  · simp [st_put, st_row, upd]
theorem takesShip_M {τ : St} {c o w k t sort rain : Nat} (hc : c < 288) (ho : o ≤ 99) (hw : w ≤ 9999) (ht : t < 720) (hs : τ 0 2 = nI sort) (hr : τ 1 (t / 24) = nI rain) (e1 : τ 5 c = nI o) (e2 : τ 6 c = nI w) (e3 : τ 7 c = nI k) : ∃ τ', fX11_takesShip τ (nI c) (nI t) = some τ' ∧ sameX 24 τ τ' ∧ ∀ j, j < 9 → τ' 24 j = envW o w (c % 6) sort rain (t % 24) k 0 j := by
  unfold fX11_takesShip
  have rm : nI c - nI c / 6 * 6 = nI (c % 6) := pk_rem (d := 6) (by omega) (by omega) (by omega)
  obtain ⟨τ1, s1, s2, f0, f1, f2, f3, f4, f5, f6⟩ := takesHour_M (τ := τ) (o := o) (w := w) (z := c % 6) (by omega) (by omega) ht hs hr
  rw [p_rdN hc (by omega), p_rdN hc (by omega), e1, e2, rm, s1, p_cv, p_rdN hc (by omega), s2 7 (by omega), e3, p_wrL 7 7 rfl (by omega) (by omega), p_wrL 8 8 rfl (by omega) (by omega)]
  refine ⟨_, rfl, fun a ha => by rw [sp_ne ha, sp_ne ha, s2 a ha], ?_⟩
  refine envW_of ?_ ?_ ?_ ?_ ?_ ?_ ?_ ?_ ?_
  · simpa [st_put, st_row, upd] using f0
  · simpa [st_put, st_row, upd] using f1
  · simpa [st_put, st_row, upd] using f2
  · simpa [st_put, st_row, upd] using f3
  · simpa [st_put, st_row, upd] using f4
  · simpa [st_put, st_row, upd] using f5
  · simpa [st_put, st_row, upd] using f6
  · simp [st_put, st_row, upd]
  · simp [st_put, st_row, upd, show (0 : Int32) = nI 0 from rfl]
theorem takesHeap_M {τ : St} {k z w N sort rain : Nat} {O : Nat → Nat} (hk : k < 64) (hz : z < 4) (hw : w ≤ 9999) (hN : N < 720) (hn : τ 0 1 = nI N) (hs : τ 0 2 = nI sort) (hr : τ 1 (N / 24) = nI rain) (hO : ∀ z, z < 4 → O z ≤ 99 ∧ τ 3 (64 * z + sw k) = nI (O z)) (hg : ∀ z, z + 1 < 4 → O z = 0 → O (z + 1) = 0) (e2 : τ 4 (64 * z + sw k) = nI w) : ∃ τ', fX11_takesHeap τ (nI (64 * z + sw k)) = some τ' ∧ sameX 24 τ τ' ∧ ∀ j, j < 9 → τ' 24 j = envW (O z) w z sort rain (N % 24) 0 (litN k (N % 24) z (topN O 4)) j := by
  have hsw := sw_lt hk
  obtain ⟨d1, d2⟩ := sw_div hk
  obtain ⟨o1, o2⟩ := hO z hz
  unfold fX11_takesHeap
  have dv : nI (64 * z + sw k) / 64 = nI z := by rw [show (64 : Int32) = nI 64 from rfl, pk_div (by omega) (by omega) (by omega)]; congr 1; omega
  have rm : nI (64 * z + sw k) - nI z * 64 = nI (sw k) := by rw [show (64 : Int32) = nI 64 from rfl, pk_mul, pk_sub (by omega)]; congr 1; omega
  have r8 : nI (64 * z + sw k) - nI (64 * z + sw k) / 8 * 8 = nI (k / 8) := by
    have := pk_rem (a := 64 * z + sw k) (d := 8) (by omega) (by omega) (by omega)
    rw [show nI 8 = (8 : Int32) from rfl] at this
    rw [this]; congr 1; omega
  have rN : nI N - nI N / 24 * 24 = nI (N % 24) := pk_rem (d := 24) (by omega) (by omega) (by omega)
  obtain ⟨τ1, s1, s2, f0, f1, f2, f3, f4, f5, f6⟩ := takesHour_M (τ := τ) (o := O z) (w := w) (z := z) (by omega) (by omega) hN hs hr
  have hh := heapHeightM (τ := st_put τ1 24 7 0) (O := O) hsw (fun z hz => ⟨(hO z hz).1, by rw [sp_ne (by omega), s2 3 (by omega)]; exact (hO z hz).2⟩) hg
  have tl := topN_le O 4
  rw [p_rdN (by omega) (by omega), p_rdN (by omega) (by omega), o2, e2, dv, hn, s1, p_cv, p_wrL 7 7 rfl (by omega) (by omega), rm, hh, p_cq, show nI z + 1 = nI (z + 1) from (nI_succ z).symm]
  have ll := litN_le k (N % 24) z (topN O 4)
  have fin : ∀ v : Int32, v = nI (litN k (N % 24) z (topN O 4)) → ∃ τ', fX11_takesHeap_113 (st_put τ1 24 7 0) v 8 = some τ' ∧ sameX 24 τ τ' ∧ ∀ j, j < 9 → τ' 24 j = envW (O z) w z sort rain (N % 24) 0 (litN k (N % 24) z (topN O 4)) j := by
    intro v hv
    unfold fX11_takesHeap_113
    rw [p_wrL 8 8 rfl (by omega) (by omega)]
    refine ⟨_, rfl, fun a ha => by rw [sp_ne ha, sp_ne ha, s2 a ha], envW_of ?_ ?_ ?_ ?_ ?_ ?_ ?_ ?_ ?_⟩
    · simpa [st_put, st_row, upd] using f0
    · simpa [st_put, st_row, upd] using f1
    · simpa [st_put, st_row, upd] using f2
    · simpa [st_put, st_row, upd] using f3
    · simpa [st_put, st_row, upd] using f4
    · simpa [st_put, st_row, upd] using f5
    · simpa [st_put, st_row, upd] using f6
    · simp [st_put, st_row, upd, show (0 : Int32) = nI 0 from rfl]
    · simpa [st_put, st_row, upd] using hv
  have n7 : st_put τ1 24 7 0 0 1 = nI N := by rw [sp_ne (by omega), s2 0 (by omega)]; exact hn
  unfold fX11_takesHeap_54 fX11_takesHeap_112
  by_cases e : topN O 4 = z + 1
  · rw [if_pos (by rw [e]), if_neg n10, r8, n7, rN]
    by_cases c : k / 8 < 4
    · rw [if_neg (show ¬ (4 : Int32) ≤ nI (k / 8) from fun q => absurd ((nI_leI (a := 4) (b := k / 8) (by omega) (by omega)).mp q) (by omega))]
      by_cases d : 6 ≤ N % 24 ∧ N % 24 < 12
      · rw [ii_t (v := nI (N % 24)) (a := 6) (b := 11) ⟨nI_le (a := 6) (b := N % 24) (by omega) (by omega), nI_le (a := N % 24) (b := 11) (by omega) (by omega)⟩, if_neg n10]
        exact fin 1 (by unfold litN; rw [if_pos c, if_pos ⟨d, e.symm⟩]; rfl)
      · rw [ii_f (v := nI (N % 24)) (a := 6) (b := 11) (fun q => d ⟨(nI_leI (a := 6) (b := N % 24) (by omega) (by omega)).mp q.1, by have := (nI_leI (a := N % 24) (b := 11) (by omega) (by omega)).mp q.2; omega⟩), if_pos rfl]
        exact fin 0 (by unfold litN; rw [if_pos c, if_neg (fun q => d q.1)]; rfl)
    · rw [if_pos (show (4 : Int32) ≤ nI (k / 8) from nI_le (a := 4) (by omega) (by omega))]
      by_cases d : 12 ≤ N % 24 ∧ N % 24 < 18
      · rw [ii_t (v := nI (N % 24)) (a := 12) (b := 17) ⟨nI_le (a := 12) (b := N % 24) (by omega) (by omega), nI_le (a := N % 24) (b := 17) (by omega) (by omega)⟩, if_neg n10]
        exact fin 1 (by unfold litN; rw [if_neg c, if_pos ⟨d, e.symm⟩]; rfl)
      · rw [ii_f (v := nI (N % 24)) (a := 12) (b := 17) (fun q => d ⟨(nI_leI (a := 12) (b := N % 24) (by omega) (by omega)).mp q.1, by have := (nI_leI (a := N % 24) (b := 17) (by omega) (by omega)).mp q.2; omega⟩), if_pos rfl]
        exact fin 0 (by unfold litN; rw [if_neg c, if_neg (fun q => d q.1)]; rfl)
  · rw [if_neg (fun q => e ((nI_eq (by omega) (by omega)).mp q)), if_pos rfl]
    exact fin 0 (by unfold litN; split <;> (rw [if_neg (fun q => e q.2.symm)]; rfl))
def lawsM (τ : St) (P : Pg) : Prop := okPg 9 4 mpL P ∧ r_rowsAt τ 0 0 mpL P
theorem lawsM_fr {τ τ' : St} {P : Pg} (h : lawsM τ P) (hs : ∀ a, 15 ≤ a → a ≤ 22 → τ' a = τ a) : lawsM τ' P := by
  refine ⟨h.1, ?_⟩
  have h2 := h.2
  unfold r_rowsAt at *
  rw [hs 15 (by omega) (by omega), hs 16 (by omega) (by omega), hs 17 (by omega) (by omega), hs 18 (by omega) (by omega), hs 19 (by omega) (by omega), hs 20 (by omega) (by omega), hs 21 (by omega) (by omega), hs 22 (by omega) (by omega)]
  exact h2
theorem lawOf_M {τ : St} {h : Nat} {P : Pg} {env : Nat → Int32} (hl : lawsM τ P) (hh : h < 4) (he : ∀ j, j < 9 → τ 24 j = env j) : ∃ τ', fX11_lawOf τ (nI h) = some (lawV env h P, τ') ∧ sameX 25 τ τ' := by
  obtain ⟨τ', e1, e2⟩ := law_M hl.1 hh P.length 0 FU τ (by omega) (by rw [FU_eq]; have := hl.1.1; omega) hl.2 he
  exact ⟨τ', e1, e2⟩
/-- the time is set -/
theorem setTime_C {σ : St} {sort rain clock : Nat} (hs : σ 28 1 = nI sort) : ∃ σ', fX2_setTime σ (nI rain) (nI clock) = some σ' ∧ sameX 29 σ σ' ∧ timeC σ' sort rain clock := by
  unfold fX2_setTime
  rw [p_wrL 4 4 rfl (by omega) (by omega), p_wrL 5 5 rfl (by omega) (by omega), p_wrL 6 6 rfl (by omega) (by omega), hs]
  refine ⟨_, rfl, fun a ha => by rw [sp_ne ha, sp_ne ha, sp_ne ha], ?_, ?_, ?_⟩ <;> simp [st_put, st_row, upd]
theorem g_laws {σ τ : St} (h : Rel σ τ) : ∃ y P, lawsC σ y P ∧ lawsM τ P := by
  obtain ⟨P, Q, x, y, w, fx, fy, fw, n1, n2, n3, e1, e2, e3, g1, g2, g3, g4, g5, g6, g7⟩ := g_txt h
  exact ⟨y, P, ⟨fy, g1, e2, g3⟩, g1, g4⟩
theorem rain_C {σ : St} {t r : Nat} (ht : t < 720) (hr : σ 3 (t / 24) = nI r) : fX7_rainAt σ (nI t) = some (nI r) := by
  unfold fX7_rainAt
  rw [wi_t (v := nI t) (b := 720) ⟨nI_pos' (by omega), nI_lt (b := 720) ht (by omega)⟩, if_neg n10, show (24 : Int32) = nI 24 from rfl, pk_div (by omega) (by omega) (by omega), p_rdN (by omega) (by omega), hr]
theorem swell_C {σ : St} {t r : Nat} (ht : t < 720) (hr : σ 4 (t / 24) = nI r) : fX7_swellAt σ (nI t) = some (nI r) := by
  unfold fX7_swellAt
  rw [wi_t (v := nI t) (b := 720) ⟨nI_pos' (by omega), nI_lt (b := 720) ht (by omega)⟩, if_neg n10, show (24 : Int32) = nI 24 from rfl, pk_div (by omega) (by omega) (by omega), p_rdN (by omega) (by omega), hr]
theorem rel_law {σ σ' τ τ' : St} {y : Nat} (hy : fW y) (h : Rel σ τ) (hC : same2 29 (y + 6) σ σ') (hM : same2 24 25 τ τ') : Rel σ' τ' := by
  refine rel_scr h (fun a ha => hC a (fun q => ?_) (fun q => ?_)) (fun a ha => hM a (fun q => ?_) (fun q => ?_))
  · subst q; exact absurd ha (by decide)
  · subst q; rcases hy with rfl | rfl | rfl <;> exact absurd ha (by decide)
  · subst q; exact absurd ha (by decide)
  · subst q; exact absurd ha (by decide)
