theorem cntN_congr {p q : Nat → Bool} : ∀ {n : Nat}, (∀ i, i < n → p i = q i) → cntN p n = cntN q n := by
  intro n
  induction n with
  | zero => intro _; rfl
  | succ n ih => intro h; unfold cntN; rw [ih (fun i hi => h i (by omega)), h n (by omega)]
theorem cntN_s (q : Nat → Bool) (n : Nat) : cntN q (n + 1) = cntN q n + (if q n then 1 else 0) := rfl
theorem cntN_le (q : Nat → Bool) : ∀ n, cntN q n ≤ n := by
  intro n
  induction n with
  | zero => exact Nat.le_refl _
  | succ n ih => unfold cntN; split <;> omega
def sumG (g : Nat → Nat) (j : Nat) : Nat → Nat
  | 0 => 0
  | d + 1 => g j + sumG g (j + 1) d
theorem sumG_congr {f g : Nat → Nat} : ∀ (d j : Nat), (∀ i, j ≤ i → i < j + d → f i = g i) → sumG f j d = sumG g j d := by
  intro d
  induction d with
  | zero => intro j _; rfl
  | succ d ih => intro j h; unfold sumG; rw [h j (Nat.le_refl _) (by omega), ih (j + 1) (fun i h1 h2 => h i (by omega) (by omega))]
theorem sumG_add (f g : Nat → Nat) : ∀ (d j : Nat), sumG (fun i => f i + g i) j d = sumG f j d + sumG g j d := by
  intro d
  induction d with
  | zero => intro j; rfl
  | succ d ih => intro j; unfold sumG; rw [ih (j + 1)]; omega
theorem sumG_zero : ∀ (d j : Nat), sumG (fun _ => 0) j d = 0 := by
  intro d
  induction d with
  | zero => intro j; rfl
  | succ d ih => intro j; unfold sumG; rw [ih]
theorem sumG_snoc (g : Nat → Nat) : ∀ (d j : Nat), sumG g j (d + 1) = sumG g j d + g (j + d) := by
  intro d
  induction d with
  | zero => intro j; simp [sumG]
  | succ d ih => intro j; rw [show sumG g j (d + 1 + 1) = g j + sumG g (j + 1) (d + 1) from rfl, ih (j + 1), show sumG g j (d + 1) = g j + sumG g (j + 1) d from rfl, show j + 1 + d = j + (d + 1) by omega]; omega
theorem sumG_one (r c : Nat) : ∀ (d j : Nat), sumG (fun i => if i = r then c else 0) j d = if j ≤ r ∧ r < j + d then c else 0 := by
  intro d
  induction d with
  | zero => intro j; rw [if_neg (by omega)]; rfl
  | succ d ih =>
    intro j
    unfold sumG
    rw [ih (j + 1)]
    by_cases e : j = r
    · rw [if_pos e, if_neg (by omega), if_pos (by omega), Nat.add_zero]
    · rw [if_neg e]
      by_cases e2 : j + 1 ≤ r ∧ r < j + 1 + d
      · rw [if_pos e2, if_pos (by omega)]; omega
      · rw [if_neg e2, if_neg (by omega)]
theorem sumG_le (g : Nat → Nat) (m : Nat) (h : ∀ i, g i ≤ m) : ∀ (d j : Nat), sumG g j d ≤ m * d := by
  intro d
  induction d with
  | zero => intro j; exact Nat.le_refl _
  | succ d ih => intro j; unfold sumG; have := ih (j + 1); have := h j; rw [Nat.mul_succ]; omega
/-- rows by what they hold, counted: as many as there are ships in them -/
theorem rows_count (P : Nat → Bool) (row : Nat → Nat) (L : Nat → Bool) (N : Nat) : ∀ n, (∀ i, i < n → row i < N) → sumG (fun j => if P j then cntN (fun i => row i == j && L i) n else 0) 0 N = sumG (fun i => if P (row i) && L i then 1 else 0) 0 n := by
  intro n
  induction n with
  | zero =>
    intro _
    rw [show sumG (fun i => if P (row i) && L i then 1 else 0) 0 0 = 0 from rfl, sumG_congr (g := fun _ => 0) N 0 (fun i _ _ => by simp [cntN]), sumG_zero]
  | succ n ih =>
    intro h
    rw [sumG_snoc, ← ih (fun i hi => h i (by omega)), Nat.zero_add]
    have hr := h n (by omega)
    rw [sumG_congr (g := fun j => (if P j then cntN (fun i => row i == j && L i) n else 0) + (if j = row n then (if P (row n) && L n then 1 else 0) else 0)) N 0, sumG_add, sumG_one, if_pos (by omega)]
    intro j _ _
    by_cases e : j = row n
    · subst e
      cases hP : P (row n) <;> cases hL : L n <;> simp [cntN, hL]
    · have e' : ¬ row n = j := fun q => e q.symm
      cases hP : P j <;> simp [cntN, e, e']
theorem opp_28 : op_28 Rel := by
  intro σ τ a0 a1 a2 a3 hb h
  have ht := rel_told h 0
  obtain ⟨n, hh, mm, ss, ll, hn, e1, e2, hl, hc⟩ := g_list h
  have e3 : st_put τ 0 0 0 0 58 = nI n := by simp [st_put, st_row, upd, e2]
  have bad : ¬ ((0 ≤ a0 ∧ a0 < 8) ∧ (0 ≤ a1 ∧ a1 < 12) ∧ (0 ≤ a2 ∧ a2 < 3)) → fX10_list σ a0 a1 a2 a3 = some (-1, σ) ∧ fX11_list τ a0 a1 a2 a3 = some (-1, st_put τ 0 0 0) := by
    intro c
    constructor
    · unfold fX10_list fX6_add fX6_add_30 fX6_add_31
      by_cases c0 : 0 ≤ a0 ∧ a0 < 8
      · rw [wi_t c0, if_neg n10]
        by_cases c1 : 0 ≤ a1 ∧ a1 < 12
        · rw [wi_t c1, if_neg n10, wi_f (fun c2 => c ⟨c0, c1, c2⟩), if_pos rfl, if_pos rfl]; rfl
        · rw [wi_f c1, if_pos rfl, if_pos rfl]; rfl
      · rw [wi_f c0, if_pos rfl, if_pos rfl]; rfl
    · unfold fX11_list; simp only [p_nmS]
      by_cases c0 : 0 ≤ a0 ∧ a0 ≤ 7
      · rw [ii_t c0, if_neg n10]
        by_cases c1 : 0 ≤ a1 ∧ a1 ≤ 11
        · rw [ii_t c1, if_neg n10, ii_f (fun c2 => c ⟨by grind, by grind, by grind⟩), if_pos rfl]
        · rw [ii_f c1, if_pos rfl]
      · rw [ii_f c0, if_pos rfl]
  by_cases c : (0 ≤ a0 ∧ a0 < 8) ∧ (0 ≤ a1 ∧ a1 < 12) ∧ (0 ≤ a2 ∧ a2 < 3)
  rotate_left
  · exact ⟨-1, σ, _, (bad c).1, (bad c).2, ht⟩
  obtain ⟨c0, c1, c2⟩ := c
  have c0' : 0 ≤ a0 ∧ a0 ≤ 7 := by grind
  have c1' : 0 ≤ a1 ∧ a1 ≤ 11 := by grind
  have c2' : 0 ≤ a2 ∧ a2 ≤ 2 := by grind
  by_cases cn : n = 200
  · subst cn
    refine ⟨-1, σ, _, ?_, ?_, ht⟩
    · unfold fX10_list fX6_add fX6_add_31; rw [wi_t c0, if_neg n10, wi_t c1, if_neg n10, wi_t c2, if_neg n10, if_neg n10, e1, if_neg (by decide)]; rfl
    · unfold fX11_list; simp only [p_nmS]; rw [ii_t c0', if_neg n10, ii_t c1', if_neg n10, ii_t c2', if_neg n10, e3, if_pos (by decide)]
  have hn2 : n < 200 := by omega
  obtain ⟨x, hx, rfl⟩ := i_of (n := 8) (by omega) c0.1 c0.2
  obtain ⟨y, hy, rfl⟩ := i_of (n := 12) (by omega) c1.1 c1.2
  obtain ⟨z, hz, rfl⟩ := i_of (n := 3) (by omega) c2.1 c2.2
  obtain ⟨v, hv, rfl⟩ : ∃ v : Nat, v ≤ 1 ∧ a3 = nI v := by
    rcases hb with rfl | rfl
    · exact ⟨0, by omega, rfl⟩
    · exact ⟨1, by omega, rfl⟩
  have ei : (nI x * 12 + nI y) * 3 + nI z = nI ((x * 12 + y) * 3 + z) := by
    rw [show (12 : Int32) = nI 12 from rfl, show (3 : Int32) = nI 3 from rfl, pk_mul, nI_add, pk_mul, nI_add]
  have hj : (x * 12 + y) * 3 + z < 288 := by omega
  obtain ⟨d1, d2⟩ := hc _ hj
  refine ⟨nI n + 1, st_put (st_put (st_put σ 42 ((x * 12 + y) * 3 + z) (nI (cntN (fun i => (hh i * 12 + mm i) * 3 + ss i == (x * 12 + y) * 3 + z) n + 1))) 43 ((x * 12 + y) * 3 + z) (nI (cntN (fun i => (hh i * 12 + mm i) * 3 + ss i == (x * 12 + y) * 3 + z && ll i == 1) n + v))) 41 0 (nI (n + 1)), st_put (st_put (st_put (st_put (st_put (st_put τ 0 0 0) 36 n (nI x)) 37 n (nI y)) 38 n (nI z)) 39 n (nI v)) 0 58 (nI (n + 1)), ?_, ?_, ?_⟩
  · unfold fX10_list fX6_add fX6_add_31 fX6_add_91
    rw [wi_t c0, if_neg n10, wi_t c1, if_neg n10, wi_t c2, if_neg n10, if_neg n10, e1, if_pos (show nI n < 200 from nI_lt (b := 200) hn2 (by omega)), ei, p_rdN hj (by omega), d1, p_wrN hj (by omega), p_rdN hj (by omega), show st_put σ 42 ((x * 12 + y) * 3 + z) (nI (cntN (fun i => (hh i * 12 + mm i) * 3 + ss i == (x * 12 + y) * 3 + z) n) + 1) 43 ((x * 12 + y) * 3 + z) = nI (cntN (fun i => (hh i * 12 + mm i) * 3 + ss i == (x * 12 + y) * 3 + z && ll i == 1) n) by simp [st_put, st_row, d2]]
    simp only [p_wrN hj (show 288 < 2147483648 by omega), p_nmS]
    rcases (show v = 0 ∨ v = 1 by omega) with rfl | rfl
    · rw [if_pos (by decide)]
      simp [p_cb, st_put, st_row, upd, e1, nI_succ]
    · rw [if_neg (by decide)]
      simp [p_cb, st_put, st_row, upd, e1, nI_succ]
  · unfold fX11_list; simp only [p_nmS]
    have nar : vp_nar .boolean (nI v) = nI v := by rcases (show v = 0 ∨ v = 1 by omega) with rfl | rfl <;> rfl
    rw [ii_t c0', if_neg n10, ii_t c1', if_neg n10, ii_t c2', if_neg n10, e3, if_neg (show ¬ nI n = 200 from fun q => cn ((nI_eq (b := 200) (by omega) (by omega)).mp q)), p_wrN hn2 (by omega), nar]
    rw [show st_put (st_put τ 0 0 0) 36 n (nI x) 0 58 = nI n by simp [st_put, st_row, upd, e2], p_wrN hn2 (by omega), show st_put (st_put (st_put τ 0 0 0) 36 n (nI x)) 37 n (nI y) 0 58 = nI n by simp [st_put, st_row, upd, e2], p_wrN hn2 (by omega), show st_put (st_put (st_put (st_put τ 0 0 0) 36 n (nI x)) 37 n (nI y)) 38 n (nI z) 0 58 = nI n by simp [st_put, st_row, upd, e2], p_wrN hn2 (by omega)]
    simp [st_put, st_row, upd, e2, nI_succ]
  · obtain ⟨h1, h2, h3, h4, h5, h6, h7, h8, h9, h10, h11, h12, h13, h14, h15, h16, h17, h18, h19, h20, h21, h22, h23, h24, h25, h26⟩ := ht
    refine ⟨by simpa [st_put, st_row, upd] using h1, by simpa [st_put, st_row, upd] using h2, by simpa [st_put, st_row, upd] using h3, by simpa [st_put, st_row, upd] using h4, by simpa [st_put, st_row, upd] using h5, by simpa [st_put, st_row, upd] using h6, by simpa [st_put, st_row, upd] using h7, by simpa [st_put, st_row, upd] using h8, by simpa [st_put, st_row, upd] using h9, by simpa [st_put, st_row, upd] using h10, by simpa [st_put, st_row, upd] using h11, by simpa [st_put, st_row, upd] using h12, by simpa [st_put, st_row, upd] using h13, by simpa [st_put, st_row, upd] using h14, by simpa [st_put, st_row, upd] using h15, by simpa [st_put, st_row, upd] using h16, by simpa [st_put, st_row, upd] using h17, by simpa [st_put, st_row, upd] using h18, by simpa [st_put, st_row, upd] using h19, by simpa [st_put, st_row, upd] using h20, r_txt_fr h21 (fun a ha => by rw [sp_ge (by omega) a ha, sp_ge (by omega) a ha, sp_ge (by omega) a ha]) (by simp [st_put, st_row, upd]) (by simp [st_put, st_row, upd]) (by simp [st_put, st_row, upd]) (by simp [st_put, st_row, upd]) (by simp [st_put, st_row, upd]) (fun a h1 h2 => by rw [sp_txt (by omega) a h1 h2, sp_txt (by omega) a h1 h2, sp_txt (by omega) a h1 h2, sp_txt (by omega) a h1 h2, sp_txt (by omega) a h1 h2]), by simpa [st_put, st_row, upd] using h22, by simpa [st_put, st_row, upd] using h23, by simpa [st_put, st_row, upd] using h24, ?_, by simpa [st_put, st_row, upd] using h26⟩
    refine ⟨n + 1, fun i => if i = n then x else hh i, fun i => if i = n then y else mm i, fun i => if i = n then z else ss i, fun i => if i = n then v else ll i, by omega, by simp [st_put, st_row, upd], by simp [st_put, st_row, upd], fun i hi => ?_, fun j hj => ?_⟩
    · by_cases e : i = n
      · subst e
        simp only [if_true]
        refine ⟨hx, hy, hz, hv, ?_, ?_, ?_, ?_⟩ <;> simp [st_put, st_row, upd]
      · obtain ⟨q1, q2, q3, q4, q5, q6, q7, q8⟩ := hl i (by omega)
        simp only [if_neg e]
        refine ⟨q1, q2, q3, q4, ?_, ?_, ?_, ?_⟩
        · simpa [st_put, st_row, upd, e] using q5
        · simpa [st_put, st_row, upd, e] using q6
        · simpa [st_put, st_row, upd, e] using q7
        · simpa [st_put, st_row, upd, e] using q8
    · obtain ⟨f1, f2⟩ := hc j hj
      have k1 : cntN (fun i => ((if i = n then x else hh i) * 12 + (if i = n then y else mm i)) * 3 + (if i = n then z else ss i) == j) n = cntN (fun i => (hh i * 12 + mm i) * 3 + ss i == j) n := cntN_congr (fun i hi => by simp [show ¬ i = n by omega])
      have k2 : cntN (fun i => ((if i = n then x else hh i) * 12 + (if i = n then y else mm i)) * 3 + (if i = n then z else ss i) == j && (if i = n then v else ll i) == 1) n = cntN (fun i => (hh i * 12 + mm i) * 3 + ss i == j && ll i == 1) n := cntN_congr (fun i hi => by simp [show ¬ i = n by omega])
      rw [cntN_s, cntN_s, k1, k2]
      simp only [if_true]
      by_cases e : j = (x * 12 + y) * 3 + z
      · subst e
        rcases (show v = 0 ∨ v = 1 by omega) with rfl | rfl <;> simp [st_put, st_row, upd]
      · have e' : ¬ (x * 12 + y) * 3 + z = j := fun q => e q.symm
        simp [st_put, st_row, upd, e, e', f1, f2]
