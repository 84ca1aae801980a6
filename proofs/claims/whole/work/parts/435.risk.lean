theorem z_add (x : Int32) : 0 + x = x := by grind
def fitB (t : Int32) (k : Nat) : Bool := t == -1 || t == nI k
theorem fits_spec (t : Int32) (k : Nat) : fX6_fits t (nI k) = if fitB t k then 1 else 0 := by
  unfold fX6_fits fitB
  by_cases c : t = -1
  · rw [if_pos c]; simp [c]
  · rw [if_neg c]
    by_cases d : t = nI k
    · rw [if_pos d]; simp [d]
    · rw [if_neg d]; simp [c, d]
def rowP (a0 a1 a2 : Int32) (j : Nat) : Bool := fitB a0 (j / 36) && fitB a1 (j / 3 % 12) && fitB a2 (j % 3)
theorem cC_s (σ : St) (f : Nat) (a b c d e g : Int32) : fX6_countOf_40 σ (f + 1) a b c d e g = fX6_countOf_40B σ (fX6_countOf_40 σ f) a b c d e g := rfl
theorem countC_loop {σ : St} {a0 a1 a2 a3 : Int32} {g : Nat → Nat} (hg : ∀ j, j < 288 → (if a3 = 0 then σ 42 j else σ 43 j) = nI (g j)) : ∀ (d j f : Nat) (acc : Int32), j + d = 288 → d < f → fX6_countOf_40 σ f a0 a1 a2 a3 acc (nI j) = some (acc + nI (sumG (fun j => if rowP a0 a1 a2 j then g j else 0) j d)) := by
  intro d
  induction d with
  | zero =>
    intro j f acc hj hf
    obtain ⟨f, rfl⟩ : ∃ g, f = g + 1 := ⟨f - 1, by omega⟩
    rw [cC_s]; unfold fX6_countOf_40B
    have : j = 288 := by omega
    subst this
    rw [if_pos (by decide)]
    show some acc = some (acc + nI 0)
    rw [nI_0]; congr 1; grind
  | succ d ih =>
    intro j f acc hj hf
    obtain ⟨f, rfl⟩ : ∃ g, f = g + 1 := ⟨f - 1, by omega⟩
    rw [cC_s]; unfold fX6_countOf_40B
    have q1 : nI j / 36 = nI (j / 36) := pk_div (d := 36) (by omega) (by omega) (by omega)
    have q2 : nI j / 3 = nI (j / 3) := pk_div (d := 3) (by omega) (by omega) (by omega)
    have q3 : nI (j / 3) - nI (j / 3) / 12 * 12 = nI (j / 3 % 12) := pk_rem (d := 12) (by omega) (by omega) (by omega)
    have q4 : nI j - nI (j / 3) * 3 = nI (j % 3) := by rw [← q2]; exact pk_rem (d := 3) (by omega) (by omega) (by omega)
    rw [if_neg (show ¬ 288 ≤ nI j from fun q => absurd ((nI_leI (a := 288) (b := j) (by omega) (by omega)).mp q) (by omega)), q1, q2, q3, q4, fits_spec, fits_spec, fits_spec]
    have nx : nI j + 1 = nI (j + 1) := (nI_succ j).symm
    have hgj := hg j (by omega)
    have skip : fX6_countOf_92 σ (fX6_countOf_40 σ f) a0 a1 a2 a3 acc (nI j) 0 = some (acc + nI (sumG (fun j => if rowP a0 a1 a2 j then g j else 0) (j + 1) d)) := by
      unfold fX6_countOf_92; rw [if_pos rfl, nx, ih (j + 1) f acc (by omega) (by omega)]
    have take : fX6_countOf_92 σ (fX6_countOf_40 σ f) a0 a1 a2 a3 acc (nI j) 1 = some (acc + nI (g j + sumG (fun j => if rowP a0 a1 a2 j then g j else 0) (j + 1) d)) := by
      unfold fX6_countOf_92; rw [if_neg n10]
      by_cases c : a3 = 0
      · rw [if_pos c, p_rdN (by omega) (by omega)]
        rw [if_pos c] at hgj
        rw [hgj, nx, ih (j + 1) f _ (by omega) (by omega), ← nI_add]; congr 1; grind
      · rw [if_neg c, p_rdN (by omega) (by omega)]
        rw [if_neg c] at hgj
        rw [hgj, nx, ih (j + 1) f _ (by omega) (by omega), ← nI_add]; congr 1; grind
    show _ = some (acc + nI ((if rowP a0 a1 a2 j then g j else 0) + sumG (fun j => if rowP a0 a1 a2 j then g j else 0) (j + 1) d))
    unfold rowP fX6_countOf_91 at *
    cases h1 : fitB a0 (j / 36)
    · simp only [Bool.false_eq_true, if_false, if_true, Bool.false_and, Nat.zero_add]; exact skip
    · cases h2 : fitB a1 (j / 3 % 12)
      · simp only [Bool.false_eq_true, if_false, if_true, Bool.false_and, Bool.and_false, Nat.zero_add, if_neg n10]; exact skip
      · cases h3 : fitB a2 (j % 3)
        · simp only [Bool.false_eq_true, if_false, if_true, Bool.false_and, Bool.and_false, Nat.zero_add, if_neg n10]; exact skip
        · simp only [if_true, Bool.and_self, if_neg n10]; exact take
theorem cM_s (σ : St) (f : Nat) (a b c d e g : Int32) : fX11_countOf_6 σ (f + 1) a b c d e g = fX11_countOf_6B σ (fX11_countOf_6 σ f) a b c d e g := rfl
theorem countM_loop {τ : St} {n : Nat} {hh mm ss ll : Nat → Nat} {a0 a1 a2 a3 : Int32} (hn : n ≤ 200) (e2 : τ 0 58 = nI n) (hl : ∀ i, i < n → hh i < 8 ∧ mm i < 12 ∧ ss i < 3 ∧ ll i ≤ 1 ∧ τ 36 i = nI (hh i) ∧ τ 37 i = nI (mm i) ∧ τ 38 i = nI (ss i) ∧ τ 39 i = nI (ll i)) : ∀ (d j f : Nat) (acc : Int32), j + d = n → d < f → fX11_countOf_6 τ f a0 a1 a2 a3 acc (nI j) = some (acc + nI (sumG (fun i => if rowP a0 a1 a2 ((hh i * 12 + mm i) * 3 + ss i) && (a3 == 0 || ll i == 1) then 1 else 0) j d)) := by
  intro d
  induction d with
  | zero =>
    intro j f acc hj hf
    obtain ⟨f, rfl⟩ : ∃ g, f = g + 1 := ⟨f - 1, by omega⟩
    rw [cM_s]; unfold fX11_countOf_6B
    rw [e2, if_pos (nI_le (by omega) (by omega))]
    show some acc = some (acc + nI 0)
    rw [nI_0]; congr 1; grind
  | succ d ih =>
    intro j f acc hj hf
    obtain ⟨f, rfl⟩ : ∃ g, f = g + 1 := ⟨f - 1, by omega⟩
    rw [cM_s]; unfold fX11_countOf_6B
    obtain ⟨r1, r2, r3, r4, r5, r6, r7, r8⟩ := hl j (by omega)
    have nx : nI j + 1 = nI (j + 1) := (nI_succ j).symm
    have skip : fX11_countOf_67 τ (fX11_countOf_6 τ f) a0 a1 a2 a3 acc (nI j) = some (acc + nI (0 + sumG (fun i => if rowP a0 a1 a2 ((hh i * 12 + mm i) * 3 + ss i) && (a3 == 0 || ll i == 1) then 1 else 0) (j + 1) d)) := by
      unfold fX11_countOf_67 fX11_countOf_68; rw [if_pos rfl, nx, ih (j + 1) f acc (by omega) (by omega), Nat.zero_add]
    have take : fX11_countOf_68 τ (fX11_countOf_6 τ f) a0 a1 a2 a3 acc (nI j) 1 = some (acc + nI ((if (a3 == 0 || ll j == 1) then 1 else 0) + sumG (fun i => if rowP a0 a1 a2 ((hh i * 12 + mm i) * 3 + ss i) && (a3 == 0 || ll i == 1) then 1 else 0) (j + 1) d)) := by
      unfold fX11_countOf_68; rw [if_neg n10, p_rdN (by omega) (by omega), r8]
      rcases (show ll j = 0 ∨ ll j = 1 by omega) with q | q
      · rw [q, if_pos (by decide)]
        by_cases c : a3 = 0
        · rw [if_pos c, nx, ih (j + 1) f _ (by omega) (by omega), ← nI_add]; simp only [c, beq_self_eq_true, Bool.true_or, if_true]; congr 1
          rw [show nI 1 = 1 from rfl]; grind
        · rw [if_neg c, nx, ih (j + 1) f _ (by omega) (by omega)]; simp [c]
      · rw [q, if_neg (by decide), nx, ih (j + 1) f _ (by omega) (by omega), ← nI_add]
        simp only [beq_self_eq_true, Bool.or_true, if_true]; congr 1
        rw [show nI 1 = 1 from rfl]; grind
    show _ = some (acc + nI ((if rowP a0 a1 a2 ((hh j * 12 + mm j) * 3 + ss j) && (a3 == 0 || ll j == 1) then 1 else 0) + sumG (fun i => if rowP a0 a1 a2 ((hh i * 12 + mm i) * 3 + ss i) && (a3 == 0 || ll i == 1) then 1 else 0) (j + 1) d))
    rw [e2, if_neg (show ¬ nI n ≤ nI j from fun q => absurd ((nI_leI (by omega) (by omega)).mp q) (by omega))]
    have P : rowP a0 a1 a2 ((hh j * 12 + mm j) * 3 + ss j) = (fitB a0 (hh j) && fitB a1 (mm j) && fitB a2 (ss j)) := by
      unfold rowP; rw [show ((hh j * 12 + mm j) * 3 + ss j) / 36 = hh j by omega, show ((hh j * 12 + mm j) * 3 + ss j) / 3 % 12 = mm j by omega, show ((hh j * 12 + mm j) * 3 + ss j) % 3 = ss j by omega]
    rw [P]
    have s47 : fX11_countOf_47 τ (fX11_countOf_6 τ f) a0 a1 a2 a3 acc (nI j) = if fitB a2 (ss j) then fX11_countOf_68 τ (fX11_countOf_6 τ f) a0 a1 a2 a3 acc (nI j) 1 else fX11_countOf_67 τ (fX11_countOf_6 τ f) a0 a1 a2 a3 acc (nI j) := by
      unfold fX11_countOf_47 fitB
      by_cases c : a2 = -1
      · rw [if_pos c]; simp [c]
      · rw [if_neg c, p_rdN (by omega) (by omega), r7]
        by_cases e : nI (ss j) = a2
        · rw [if_pos e]; simp [← e]
        · rw [if_neg e]; simp [c, show ¬ a2 = nI (ss j) from fun q => e q.symm]
    have s31 : fX11_countOf_31 τ (fX11_countOf_6 τ f) a0 a1 a2 a3 acc (nI j) = if fitB a1 (mm j) then fX11_countOf_47 τ (fX11_countOf_6 τ f) a0 a1 a2 a3 acc (nI j) else fX11_countOf_67 τ (fX11_countOf_6 τ f) a0 a1 a2 a3 acc (nI j) := by
      unfold fX11_countOf_31 fitB
      by_cases c : a1 = -1
      · rw [if_pos c]; simp [c]
      · rw [if_neg c, p_rdN (by omega) (by omega), r6]
        by_cases e : nI (mm j) = a1
        · rw [if_pos e]; simp [← e]
        · rw [if_neg e]; simp [c, show ¬ a1 = nI (mm j) from fun q => e q.symm]
    have s0 : (if a0 = -1 then fX11_countOf_31 τ (fX11_countOf_6 τ f) a0 a1 a2 a3 acc (nI j) else rdK 200 (τ 36) (nI j) fun v3 => if v3 = a0 then fX11_countOf_31 τ (fX11_countOf_6 τ f) a0 a1 a2 a3 acc (nI j) else fX11_countOf_67 τ (fX11_countOf_6 τ f) a0 a1 a2 a3 acc (nI j)) = if fitB a0 (hh j) then fX11_countOf_31 τ (fX11_countOf_6 τ f) a0 a1 a2 a3 acc (nI j) else fX11_countOf_67 τ (fX11_countOf_6 τ f) a0 a1 a2 a3 acc (nI j) := by
      unfold fitB
      by_cases c : a0 = -1
      · rw [if_pos c]; simp [c]
      · rw [if_neg c, p_rdN (by omega) (by omega), r5]
        by_cases e : nI (hh j) = a0
        · rw [if_pos e]; simp [← e]
        · rw [if_neg e]; simp [c, show ¬ a0 = nI (hh j) from fun q => e q.symm]
    rw [s0, s31, s47, skip, take]
    cases fitB a0 (hh j) <;> cases fitB a1 (mm j) <;> cases fitB a2 (ss j) <;> simp
/-- both count the same -/
theorem count_both {σ τ : St} (h : Rel σ τ) (a0 a1 a2 a3 : Int32) (h3 : a3 = 0 ∨ a3 = 1) : ∃ c : Nat, c ≤ 200 ∧ fX6_countOf_40 σ FU a0 a1 a2 a3 0 0 = some (nI c) ∧ fX11_countOf τ a0 a1 a2 a3 = some (nI c) := by
  obtain ⟨n, hh, mm, ss, ll, hn, e1, e2, hl, hc⟩ := g_list h
  have M := countM_loop (a0 := a0) (a1 := a1) (a2 := a2) (a3 := a3) hn e2 hl n 0 FU 0 (by omega) (by rw [FU_eq]; omega)
  have hrow : ∀ i, i < n → (hh i * 12 + mm i) * 3 + ss i < 288 := fun i hi => by
    obtain ⟨q1, q2, q3, _⟩ := hl i hi
    omega
  have X := rows_count (rowP a0 a1 a2) (fun i => (hh i * 12 + mm i) * 3 + ss i) (fun i => a3 == 0 || ll i == 1) 288 n hrow
  have C := countC_loop (σ := σ) (a0 := a0) (a1 := a1) (a2 := a2) (a3 := a3) (g := fun j => cntN (fun i => (hh i * 12 + mm i) * 3 + ss i == j && (a3 == 0 || ll i == 1)) n) (fun j hj => by
    obtain ⟨f1, f2⟩ := hc j hj
    rcases h3 with rfl | rfl
    · rw [if_pos rfl, f1]; exact congrArg nI (cntN_congr (fun i hi => by simp))
    · rw [if_neg n10, f2]; exact congrArg nI (cntN_congr (fun i hi => by simp))) 288 0 FU 0 (by omega) (by rw [FU_eq]; omega)
  refine ⟨sumG (fun i => if rowP a0 a1 a2 ((hh i * 12 + mm i) * 3 + ss i) && (a3 == 0 || ll i == 1) then 1 else 0) 0 n, ?_, ?_, ?_⟩
  · have := sumG_le (fun i => if rowP a0 a1 a2 ((hh i * 12 + mm i) * 3 + ss i) && (a3 == 0 || ll i == 1) then 1 else 0) 1 (fun i => by split <;> omega) n 0
    omega
  · rw [← X, ← z_add (nI _)]; exact C
  · rw [← z_add (nI _)]; exact M
theorem countC_ok {σ : St} {a0 a1 a2 a3 : Int32} (h0 : -1 ≤ a0 ∧ a0 ≤ 7) (h1 : -1 ≤ a1 ∧ a1 ≤ 11) (h2 : -1 ≤ a2 ∧ a2 ≤ 2) : fX6_countOf σ a0 a1 a2 a3 = fX6_countOf_40 σ FU a0 a1 a2 a3 0 0 := by
  unfold fX6_countOf
  rw [wi_t (show 0 ≤ a0 + 1 ∧ a0 + 1 < 9 by grind), wi_t (show 0 ≤ a1 + 1 ∧ a1 + 1 < 13 by grind), wi_t (show 0 ≤ a2 + 1 ∧ a2 + 1 < 4 by grind), if_neg n10, if_neg n10, if_neg n10]
theorem countC_bad {σ : St} {a0 a1 a2 a3 : Int32} (h : ¬ ((-1 ≤ a0 ∧ a0 ≤ 7) ∧ (-1 ≤ a1 ∧ a1 ≤ 11) ∧ (-1 ≤ a2 ∧ a2 ≤ 2))) : fX6_countOf σ a0 a1 a2 a3 = some (-1) := by
  unfold fX6_countOf
  by_cases c0 : 0 ≤ a0 + 1 ∧ a0 + 1 < 9
  · rw [wi_t c0, if_neg n10]
    by_cases c1 : 0 ≤ a1 + 1 ∧ a1 + 1 < 13
    · rw [wi_t c1, if_neg n10]
      by_cases c2 : 0 ≤ a2 + 1 ∧ a2 + 1 < 4
      · exact absurd ⟨by grind, by grind, by grind⟩ h
      · rw [wi_f c2, if_pos rfl]
    · rw [wi_f c1, if_pos rfl]
  · rw [wi_f c0, if_pos rfl]
theorem whC_s (σ : St) (f : Nat) (a b c d : Int32) : fX6_worstHarbour_9 σ (f + 1) a b c d = fX6_worstHarbour_9B σ (fX6_worstHarbour_9 σ f) a b c d := rfl
theorem whM_s (σ : St) (f : Nat) (a b c d : Int32) : fX11_worstHarbour_9 σ (f + 1) a b c d = fX11_worstHarbour_9B σ (fX11_worstHarbour_9 σ f) a b c d := rfl
theorem wh_loop {σ τ : St} (h : Rel σ τ) : ∀ (d j f : Nat) (x1 x2 x3 : Int32), j + d = 8 → d < f → (x1 = -1 → x2 = 0 ∧ x3 = 1) → ∃ r, fX6_worstHarbour_9 σ f x1 x2 x3 (nI j) = some r ∧ fX11_worstHarbour_9 τ f x1 x2 x3 (nI j) = some r := by
  intro d
  induction d with
  | zero =>
    intro j f x1 x2 x3 hj hf _
    obtain ⟨f, rfl⟩ : ∃ g, f = g + 1 := ⟨f - 1, by omega⟩
    have : j = 8 := by omega
    subst this
    refine ⟨x1, ?_, ?_⟩
    · rw [whC_s]; unfold fX6_worstHarbour_9B; rw [if_pos (by decide)]
    · rw [whM_s]; unfold fX11_worstHarbour_9B; rw [if_pos (by decide)]
  | succ d ih =>
    intro j f x1 x2 x3 hj hf hx
    obtain ⟨f, rfl⟩ : ∃ g, f = g + 1 := ⟨f - 1, by omega⟩
    have h8 : ¬ 8 ≤ nI j := fun q => absurd ((nI_leI (a := 8) (b := j) (by omega) (by omega)).mp q) (by omega)
    have hj7 : -1 ≤ nI j ∧ nI j ≤ 7 := ⟨by have := nI_pos' (n := j) (by omega); grind, nI_le (b := 7) (by omega) (by omega)⟩
    obtain ⟨c2, b2, p2, q2⟩ := count_both h (nI j) (-1) (-1) 0 (Or.inl rfl)
    obtain ⟨c4, b4, p4, q4⟩ := count_both h (nI j) (-1) (-1) 1 (Or.inr rfl)
    have nx : nI j + 1 = nI (j + 1) := (nI_succ j).symm
    rw [whC_s, whM_s]; unfold fX6_worstHarbour_9B fX11_worstHarbour_9B
    rw [if_neg h8, if_neg h8, countC_ok hj7 (by decide) (by decide), countC_ok hj7 (by decide) (by decide), p2, p4, q2, q4]
    simp only [p_cq]
    rw [nx]
    have up := ih (j + 1) f (nI j) (nI c4 + 1) (nI c2 + 2) (by omega) (by omega) (fun q => absurd q (nI_m1 (by omega)))
    have st := ih (j + 1) f x1 x2 x3 (by omega) (by omega) hx
    by_cases z : c2 = 0
    · rw [if_pos ((nI_le0 (by omega)).mpr z), if_pos (by rw [z]; decide)]
      exact st
    · rw [if_neg (fun q => z ((nI_le0 (by omega)).mp q)), if_neg (show ¬ nI c2 + 2 = 2 from fun q => z ((nI_e0 (by omega)).mp (by grind)))]
      by_cases w : x1 = -1
      · obtain ⟨w1, w2⟩ := hx w
        rw [if_pos w, if_neg]
        · exact up
        · intro q
          rw [w1, w2] at q
          have e1 : (nI c4 + 1) * 1 = nI (c4 + 1) := by rw [nI_succ]; grind
          have e2 : (0 : Int32) * (nI c2 + 2) = 0 := by grind
          rw [e1, e2] at q
          exact absurd ((nI_le0 (by omega)).mp q) (by omega)
      · rw [if_neg w]
        by_cases y : (nI c4 + 1) * x3 ≤ x2 * (nI c2 + 2)
        · rw [if_pos y, if_neg (Int32.not_lt.mpr y)]
          exact st
        · rw [if_neg y, if_pos (Int32.not_le.mp y)]
          exact up
theorem opp_29 : op_29 Rel := by
  intro σ τ a0 a1 a2 a3 h
  have ht := rel_told h 0
  by_cases c2 : a3 = 2
  · obtain ⟨r, p, q⟩ := wh_loop ht 8 0 FU (-1) 0 1 (by omega) (by rw [FU_eq]; omega) (fun _ => ⟨rfl, rfl⟩)
    refine ⟨r, _, ?_, ?_, ht⟩
    · unfold fX10_risk fX6_worstHarbour; rw [if_pos c2]
      rw [show (0 : Int32) = nI 0 from rfl] at p ⊢
      rw [p]; rfl
    · unfold fX11_risk fX11_worstHarbour; simp only [p_nmS]; rw [if_pos c2]
      rw [show (0 : Int32) = nI 0 from rfl] at q ⊢
      rw [q]; rfl
  · by_cases c : (-1 ≤ a0 ∧ a0 ≤ 7) ∧ (-1 ≤ a1 ∧ a1 ≤ 11) ∧ (-1 ≤ a2 ∧ a2 ≤ 2)
    · obtain ⟨k0, k1, k2⟩ := c
      by_cases d0 : a3 = 0
      · obtain ⟨n, hn, p, q⟩ := count_both ht a0 a1 a2 1 (Or.inr rfl)
        refine ⟨nI n + 1, _, ?_, ?_, ht⟩
        · unfold fX10_risk fX10_risk_25 fX10_risk_42 fX10_risk_49; rw [if_neg c2, if_pos d0, if_pos d0, countC_ok k0 k1 k2, p, p_cq, if_neg (nI_m1 (by omega)), d0]
          congr 1; grind
        · unfold fX11_risk; simp only [p_nmS]; rw [if_neg c2, ii_t k0, if_neg n10, ii_t k1, if_neg n10, ii_t k2, if_neg n10, ii_t (by rw [d0]; decide), if_neg n10, if_pos d0, q, p_cq]
      · by_cases d1 : a3 = 1
        · obtain ⟨n, hn, p, q⟩ := count_both ht a0 a1 a2 0 (Or.inl rfl)
          refine ⟨nI n + 2, _, ?_, ?_, ht⟩
          · unfold fX10_risk fX10_risk_25 fX10_risk_42 fX10_risk_49; rw [if_neg c2, if_neg d0, if_pos d1, if_neg d0, countC_ok k0 k1 k2, p, p_cq, if_neg (nI_m1 (by omega)), d1]
            congr 1; grind
          · unfold fX11_risk; simp only [p_nmS]; rw [if_neg c2, ii_t k0, if_neg n10, ii_t k1, if_neg n10, ii_t k2, if_neg n10, ii_t (by rw [d1]; decide), if_neg n10, if_neg d0, q, p_cq]
        · refine ⟨-1, _, ?_, ?_, ht⟩
          · unfold fX10_risk fX10_risk_49; rw [if_neg c2, if_neg d0, if_neg d1, if_pos rfl]
          · unfold fX11_risk; simp only [p_nmS]; rw [if_neg c2, ii_t k0, if_neg n10, ii_t k1, if_neg n10, ii_t k2, if_neg n10, ii_f (by grind), if_pos rfl]
    · refine ⟨-1, _, ?_, ?_, ht⟩
      · unfold fX10_risk fX10_risk_25 fX10_risk_42 fX10_risk_49; rw [if_neg c2]
        rw [countC_bad c, countC_bad c]
        simp only [p_cq, if_true, ite_self]
      · unfold fX11_risk; simp only [p_nmS]; rw [if_neg c2]
        by_cases k0 : -1 ≤ a0 ∧ a0 ≤ 7
        · rw [ii_t k0, if_neg n10]
          by_cases k1 : -1 ≤ a1 ∧ a1 ≤ 11
          · rw [ii_t k1, if_neg n10, ii_f (fun k2 => c ⟨k0, k1, k2⟩), if_pos rfl]
          · rw [ii_f k1, if_pos rfl]
        · rw [ii_f k0, if_pos rfl]
