/-! the nearest port first -/
theorem some1 {σ s : St} (h : fX10_staysTill_77 σ = some (1, s)) : σ 17 6 = -1 := by
  unfold fX10_staysTill_77 at h
  by_cases c : σ 17 6 = -1
  · exact c
  · rw [if_neg c] at h
    exact absurd (show (0 : Int32) = 1 from congrArg Prod.fst (Option.some.inj h)) (by decide)
theorem st_mono : ∀ (d' d i f f' : Nat) (σ s : St), d' ≤ d → d < f → d' < f' → i + d < 1000 → fX10_staysTill_16 f σ (nI (i + d)) (nI i) = some (1, s) → ∃ s', fX10_staysTill_16 f' σ (nI (i + d')) (nI i) = some (1, s') := by
  intro d'
  induction d' with
  | zero =>
    intro d i f f' σ s h1 h2 h3 h4 h
    obtain ⟨f, rfl⟩ : ∃ g, f = g + 1 := ⟨f - 1, by omega⟩
    obtain ⟨f', rfl⟩ : ∃ g, f' = g + 1 := ⟨f' - 1, by omega⟩
    rw [st16_s] at h ⊢
    unfold fX10_staysTill_16B at h ⊢
    rw [if_pos (show nI (i + 0) ≤ nI i from nI_le (Nat.le_refl _) (by omega))]
    unfold fX10_staysTill_77
    by_cases c : σ 17 6 = -1
    · rw [if_pos c]; exact ⟨σ, rfl⟩
    · rw [if_neg c] at h
      exact absurd (some1 (by split at h <;> exact h)) c
  | succ d' ih =>
    intro d i f f' σ s h1 h2 h3 h4 h
    obtain ⟨f, rfl⟩ : ∃ g, f = g + 1 := ⟨f - 1, by omega⟩
    obtain ⟨f', rfl⟩ : ∃ g, f' = g + 1 := ⟨f' - 1, by omega⟩
    rw [st16_s] at h ⊢
    unfold fX10_staysTill_16B at h ⊢
    rw [if_neg (fun q => absurd ((nI_leI (by omega) (by omega)).mp q) (by omega))] at h ⊢
    by_cases c : σ 17 6 = -1
    · rw [if_pos c] at h ⊢
      cases e1 : fX7_rainAt σ (nI i) with
      | none => rw [e1] at h; exact absurd h (by intro q; exact nomatch q)
      | some r =>
        rw [e1, p_cq] at h; rw [p_cq]
        cases e2 : fX2_setTime σ r (nI i - nI i / 24 * 24) with
        | none => rw [e2] at h; exact absurd h (by intro q; exact nomatch q)
        | some σ6 =>
          rw [e2, p_cv] at h; rw [p_cv]
          cases e3 : fX7_swellAt σ6 (nI i) with
          | none => rw [e3] at h; exact absurd h (by intro q; exact nomatch q)
          | some r7 =>
            rw [e3, p_cq] at h; rw [p_cq]
            cases e4 : fX5_passHour 17 σ6 r7 (nI i) with
            | none => rw [e4] at h; exact absurd h (by intro q; exact nomatch q)
            | some σ10 =>
              rw [e4, p_cv, show nI i + 1 = nI (i + 1) from (nI_succ _).symm] at h
              rw [p_cv, show nI i + 1 = nI (i + 1) from (nI_succ _).symm]
              have := ih (d - 1) (i + 1) f f' σ10 s (by omega) (by omega) (by omega) (by omega) (by rw [show i + 1 + (d - 1) = i + d by omega]; exact h)
              rw [show i + 1 + d' = i + (d' + 1) by omega] at this
              exact this
    · rw [if_neg c] at h
      exact absurd (some1 h) c
/-- she is still there after H hours -/
def stays (σ : St) (N H : Nat) : Prop := N + H ≤ 719 ∧ ∃ s, fX10_staysTill σ (nI (N + H)) = some (1, s)
theorem stays_mono {σ : St} {N H H' : Nat} (en : σ 0 12 = nI N) (hz : σ 10 3 = 0 ∨ σ 10 3 = 1) (hle : H' ≤ H) (h : stays σ N H) : stays σ N H' := by
  obtain ⟨h1, s, h2⟩ := h
  refine ⟨by omega, ?_⟩
  obtain ⟨σ2, a1, a2, _⟩ := copy_C hz
  unfold fX10_staysTill at *
  rw [a1, p_cv, a2 0 (by omega), en] at h2 ⊢
  exact st_mono H' H N FU FU σ2 s hle (by rw [FU_eq]; omega) (by rw [FU_eq]; omega) (by omega) h2
def ptN (σ : St) (i : Nat) : Nat := (σ 1 i).toNatClampNeg
theorem pt_C {σ τ : St} (h : Rel σ τ) : ∃ n, n ≤ 6 ∧ σ 0 11 = nI n ∧ τ 0 56 = nI n ∧ ∀ i, i < n → ptN σ i ≤ 400 ∧ σ 1 i = nI (ptN σ i) ∧ τ 35 i = nI (ptN σ i) := by
  obtain ⟨n, h1, h2, h3, h4⟩ := g_ports h
  refine ⟨n, h1, h2, h3, fun i hi => ?_⟩
  obtain ⟨v, v1, v2, v3, v4⟩ := h4 i hi
  have : ptN σ i = v := by unfold ptN; rw [v3]; exact nI_clamp (by omega)
  rw [this]
  exact ⟨v2, v3, v4⟩
def ltP (F : Nat → Nat) (b i : Nat) : Prop := F b < F i ∨ (F b = F i ∧ b ≤ i)
def nrC (F : Nat → Nat) (j : Nat) (x : Int32) : Prop := (j = 0 ∧ x = -1) ∨ ∃ b, b < j ∧ x = nI b ∧ ∀ i, i < j → ltP F b i
theorem np_s (σ : St) (f : Nat) (a b : Int32) : fX10_nearestPort_4 σ (f + 1) a b = fX10_nearestPort_4B σ (fX10_nearestPort_4 σ f) a b := rfl
theorem near_C {σ : St} {n : Nat} (hn : n ≤ 6) (e : σ 0 11 = nI n) (hp : ∀ i, i < n → ptN σ i ≤ 400 ∧ σ 1 i = nI (ptN σ i)) : ∀ (d j f : Nat) (x : Int32), j + d = n → d < f → nrC (ptN σ) j x → ∃ x', fX10_nearestPort_4 σ f x (nI j) = some x' ∧ nrC (ptN σ) n x' := by
  intro d
  induction d with
  | zero =>
    intro j f x h1 h2 h
    obtain ⟨f, rfl⟩ : ∃ g, f = g + 1 := ⟨f - 1, by omega⟩
    have : j = n := by omega
    subst this
    rw [np_s]; unfold fX10_nearestPort_4B
    rw [e, if_pos (nI_le (Nat.le_refl _) (by omega))]
    exact ⟨x, rfl, h⟩
  | succ d ih =>
    intro j f x h1 h2 h
    obtain ⟨f, rfl⟩ : ∃ g, f = g + 1 := ⟨f - 1, by omega⟩
    obtain ⟨p1, p2⟩ := hp j (by omega)
    rw [np_s]; unfold fX10_nearestPort_4B
    rw [e, if_neg (fun q => absurd ((nI_leI (by omega) (by omega)).mp q) (by omega)), if_neg (show ¬ (6 : Int32) ≤ nI j from fun q => absurd ((nI_leI (a := 6) (by omega) (by omega)).mp q) (by omega)), show nI j + 1 = nI (j + 1) from (nI_succ _).symm]
    rcases h with ⟨rfl, rfl⟩ | ⟨b, hb, rfl, hl⟩
    · rw [if_pos rfl]
      refine ih (0 + 1) f _ (by omega) (by omega) (Or.inr ⟨0, by omega, rfl, fun i hi => ?_⟩)
      have : i = 0 := by omega
      subst this
      exact Or.inr ⟨rfl, Nat.le_refl _⟩
    · obtain ⟨q1, q2⟩ := hp b (by omega)
      rw [if_neg (nI_m1 (by omega)), p_rdN (by omega) (by omega), p_rdN (by omega) (by omega), p2, q2]
      by_cases c : ptN σ b ≤ ptN σ j
      · rw [if_pos (nI_le c (by omega))]
        refine ih (j + 1) f _ (by omega) (by omega) (Or.inr ⟨b, by omega, rfl, fun i hi => ?_⟩)
        by_cases z : i = j
        · subst z
          unfold ltP
          omega
        · exact hl i (by omega)
      · rw [if_neg (fun q => c ((nI_leI (by omega) (by omega)).mp q))]
        refine ih (j + 1) f _ (by omega) (by omega) (Or.inr ⟨j, by omega, rfl, fun i hi => ?_⟩)
        by_cases z : i = j
        · subst z; exact Or.inr ⟨rfl, Nat.le_refl _⟩
        · have := hl i (by omega)
          unfold ltP at *
          omega
def nrM (σ : St) (N : Nat) (j : Nat) (x : Int32) : Prop := (x = -1 ∧ ∀ i, i < j → ¬ stays σ N (ptN σ i)) ∨ ∃ b, b < j ∧ x = nI b ∧ stays σ N (ptN σ b) ∧ ∀ i, i < j → stays σ N (ptN σ i) → ltP (ptN σ) b i
theorem r93_s (f : Nat) (τ : St) (a b : Int32) : fX11_reach_93 (f + 1) τ a b = fX11_reach_93B (fX11_reach_93 f) τ a b := rfl
theorem near_M {σ : St} {N n : Nat} (en : σ 0 12 = nI N) (hN : N ≤ 719) (sea : ¬ σ 10 3 = 0) (hz : σ 10 3 = 0 ∨ σ 10 3 = 1) (hn : n ≤ 6) (e0 : σ 0 11 = nI n) : ∀ (d j f : Nat) (τ : St) (x : Int32), j + d = n → d < f → Rel σ τ → nrM σ N j x → ∃ x' τ', fX11_reach_93 f τ x (nI j) = some (x', τ') ∧ Rel σ τ' ∧ nrM σ N n x' := by
  intro d
  induction d with
  | zero =>
    intro j f τ x h1 h2 hr h
    obtain ⟨f, rfl⟩ : ∃ g, f = g + 1 := ⟨f - 1, by omega⟩
    have : j = n := by omega
    subst this
    obtain ⟨n', g1, g2, g3, g4⟩ := pt_C hr
    have : n' = j := ((nI_eq (by omega) (by omega)).mp (e0.symm.trans g2)).symm
    subst this
    rw [r93_s]; unfold fX11_reach_93B
    rw [g3, if_pos (nI_le (Nat.le_refl _) (by omega))]
    exact ⟨x, τ, rfl, hr, h⟩
  | succ d ih =>
    intro j f τ x h1 h2 hr h
    obtain ⟨f, rfl⟩ : ∃ g, f = g + 1 := ⟨f - 1, by omega⟩
    obtain ⟨n', g1, g2, g3, g4⟩ := pt_C hr
    have : n' = n := ((nI_eq (by omega) (by omega)).mp (e0.symm.trans g2)).symm
    subst this
    obtain ⟨p1, p2, p3⟩ := g4 j (by omega)
    obtain ⟨N', _, n1, n2⟩ := g_now hr
    have : N' = N := ((nI_eq (by omega) (by omega)).mp (en.symm.trans n1)).symm
    subst this
    rw [r93_s]; unfold fX11_reach_93B
    rw [g3, if_neg (fun q => absurd ((nI_leI (by omega) (by omega)).mp q) (by omega)), p_rdN (f := τ 35) (j := j) (by omega) (by omega), p3, n2, nI_add, show nI j + 1 = nI (j + 1) from (nI_succ _).symm]
    have skip : ¬ stays σ N' (ptN σ j) → nrM σ N' (j + 1) x := by
      intro ns
      rcases h with ⟨q1, q2⟩ | ⟨b, hb, q1, q2, q3⟩
      · refine Or.inl ⟨q1, fun i hi => ?_⟩
        by_cases z : i = j
        · subst z; exact ns
        · exact q2 i (by omega)
      · refine Or.inr ⟨b, by omega, q1, q2, fun i hi hs => ?_⟩
        by_cases z : i = j
        · subst z; exact absurd hs ns
        · exact q3 i (by omega) hs
    by_cases c : ¬ N' + ptN σ j ≤ 719
    · rw [if_pos (show (719 : Int32) < nI (N' + ptN σ j) from nI_lt (a := 719) (by omega) (by omega))]
      exact ih (j + 1) f τ x (by omega) (by omega) hr (skip (fun q => c q.1))
    have c := Decidable.not_not.mp c
    rw [if_neg (show ¬ (719 : Int32) < nI (N' + ptN σ j) from fun q => absurd ((nI_ltI (a := 719) (by omega) (by omega)).mp q) (by omega))]
    have try_ : (x = -1 ∨ ∃ b, b < j ∧ x = nI b ∧ ptN σ j < ptN σ b) → ∃ x' τ', fX11_reach_141 (fX11_reach_93 f) τ x (nI j) = some (x', τ') ∧ Rel σ τ' ∧ nrM σ N' n' x' := by
      intro hx
      unfold fX11_reach_141
      obtain ⟨b, σ', τ', a1, a2, a3, a4, _⟩ := lasts_both hr en c sea
      rw [p_rdN (f := τ 35) (j := j) (by omega) (by omega), p3, a2, p_cb, show nI j + 1 = nI (j + 1) from (nI_succ _).symm]
      cases b with
      | false =>
        rw [if_pos (show bI false = 0 from rfl)]
        refine ih (j + 1) f τ' x (by omega) (by omega) a4 (skip (fun q => ?_))
        obtain ⟨_, s, hs⟩ := q
        rw [a1] at hs
        exact absurd (show (0 : Int32) = 1 from congrArg Prod.fst (Option.some.inj hs)) (by decide)
      | true =>
        rw [if_neg (show ¬ bI true = 0 by decide)]
        refine ih (j + 1) f τ' (nI j) (by omega) (by omega) a4 (Or.inr ⟨j, by omega, rfl, ⟨c, σ', a1⟩, fun i hi hs => ?_⟩)
        by_cases z : i = j
        · subst z; exact Or.inr ⟨rfl, Nat.le_refl _⟩
        rcases h with ⟨q1, q2⟩ | ⟨b, hb, q1, q2, q3⟩
        · exact absurd hs (q2 i (by omega))
        · have := q3 i (by omega) hs
          rcases hx with q4 | ⟨b', q5, q6, q7⟩
          · rw [q1] at q4; exact absurd q4 (nI_m1 (by omega))
          · have : b' = b := (nI_eq (by omega) (by omega)).mp (q6.symm.trans q1)
            subst this
            unfold ltP at *
            omega
    rcases h with ⟨q1, q2⟩ | ⟨b, hb, q1, q2, q3⟩
    · rw [if_pos q1]; exact try_ (Or.inl q1)
    · subst q1
      obtain ⟨s1, s2, s3⟩ := g4 b (by omega)
      rw [if_neg (nI_m1 (by omega)), p_rdN (f := τ 35) (j := j) (by omega) (by omega), p_rdN (f := τ 35) (j := b) (by omega) (by omega), p3, s3]
      by_cases lt : ptN σ j < ptN σ b
      · rw [if_pos (nI_lt lt (by omega))]
        exact try_ (Or.inr ⟨b, hb, rfl, lt⟩)
      · rw [if_neg (fun q => lt ((nI_ltI (by omega) (by omega)).mp q))]
        refine ih (j + 1) f τ _ (by omega) (by omega) hr (Or.inr ⟨b, by omega, rfl, q2, fun i hi hs => ?_⟩)
        by_cases z : i = j
        · subst z; unfold ltP; omega
        · exact q3 i (by omega) hs
theorem opp_27 : op_27 Rel := by
  intro σ τ0 a0 h0
  have h := rel_told h0 0
  generalize hτ : st_put τ0 0 0 0 = τ at h
  unfold fX10_reach fX11_reach
  rw [p_nmS, hτ]
  obtain ⟨n, g1, g2, g3, g4⟩ := pt_C h
  obtain ⟨N, hN, n1, n2⟩ := g_now h
  obtain ⟨S, hS, s1, s2⟩ := g_sea h
  obtain ⟨u1, u2⟩ := g_gone h
  have hz : σ 10 3 = 0 ∨ σ 10 3 = 1 := by
    rcases (show S = 0 ∨ S = 1 by omega) with rfl | rfl
    · exact Or.inl s1
    · exact Or.inr s1
  by_cases c : a0 = -1
  · rw [if_pos c, if_pos c]
    obtain ⟨x, e1, e2⟩ := near_C g1 g2 (fun i hi => ⟨(g4 i hi).1, (g4 i hi).2.1⟩) n 0 FU (-1) (by omega) (by rw [FU_eq]; omega) (Or.inl ⟨rfl, rfl⟩)
    rw [show fX10_nearestPort σ = some x from e1, p_cq]
    unfold fX10_reach_13 fX11_reach_25
    rw [s2, p_rdL 0 0 rfl (by omega) (by omega), ← u1, s1, g2, if_pos c]
    by_cases sz : S = 0
    · subst sz
      refine ⟨-1, σ, τ, ?_, ?_, h⟩
      · split
        · rfl
        · rw [if_pos (show nI 0 = 0 from rfl)]
      · rw [if_pos (show nI 0 = 0 from rfl)]
    have sn : ¬ nI S = 0 := fun q => sz ((nI_e0 (by omega)).mp q)
    have sea : ¬ σ 10 3 = 0 := by rw [s1]; exact sn
    rw [if_neg sn, if_neg sn]
    by_cases gz : ¬ σ 10 6 = -1
    · rw [if_neg gz, if_neg gz]
      refine ⟨-1, σ, τ, ?_, rfl, h⟩
      split <;> rfl
    have gz := Decidable.not_not.mp gz
    rw [if_pos gz, if_pos gz]
    obtain ⟨x', τ', m1, m2, m3⟩ := near_M n1 hN sea hz g1 g2 n 0 FU τ (-1) (by omega) (by rw [FU_eq]; omega) h (Or.inl ⟨rfl, fun i hi => by omega⟩)
    rw [show fX11_reach_93 FU τ (-1) 0 = _ from m1]
    rcases e2 with ⟨rfl, rfl⟩ | ⟨b, hb, rfl, hl⟩
    · rw [wi_f (show ¬ ((0 : Int32) ≤ -1 ∧ (-1 : Int32) < nI 0) by decide), if_pos rfl]
      rcases m3 with ⟨q1, _⟩ | ⟨b, hb, _⟩
      · subst q1; exact ⟨_, _, _, rfl, rfl, m2⟩
      · omega
    · obtain ⟨p1, p2, p3⟩ := g4 b hb
      rw [wi_t ⟨nI_pos' (by omega), nI_lt hb (by omega)⟩, if_neg n10, p_rdN (by omega) (by omega), p2, n1, nI_add]
      have mono : ∀ i, i < n → stays σ N (ptN σ i) → stays σ N (ptN σ b) := fun i hi hs => stays_mono n1 hz (by have := hl i hi; unfold ltP at this; omega) hs
      have none_ : ¬ stays σ N (ptN σ b) → x' = -1 := by
        intro ns
        rcases m3 with ⟨q1, _⟩ | ⟨b', hb', q1, q2, q3⟩
        · exact q1
        · exact absurd (mono b' hb' q2) ns
      have one_ : stays σ N (ptN σ b) → x' = nI b := by
        intro ys
        rcases m3 with ⟨q1, q2⟩ | ⟨b', hb', q1, q2, q3⟩
        · exact absurd ys (q2 b hb)
        · have w1 := q3 b hb ys
          have w2 := hl b' hb'
          have : b' = b := by unfold ltP at *; omega
          rw [q1, this]
      by_cases far : ¬ N + ptN σ b ≤ 719
      · rw [if_neg (show ¬ nI (N + ptN σ b) ≤ 719 from fun q => far ((nI_leI (b := 719) (by omega) (by omega)).mp q)), none_ (fun q => far q.1)]
        exact ⟨_, _, _, rfl, rfl, m2⟩
      have far := Decidable.not_not.mp far
      obtain ⟨v, σ2, τ2, a1, a2, a3, a4, rel2⟩ := lasts_both m2 n1 far sea
      rw [if_pos (show nI (N + ptN σ b) ≤ 719 from nI_le (b := 719) far (by omega)), a1, p_cb, if_pos c]
      cases v with
      | false =>
        rw [if_pos (show bI false = 0 from rfl), none_ (fun q => by obtain ⟨_, s, hs⟩ := q; rw [a1] at hs; exact absurd (show (0 : Int32) = 1 from congrArg Prod.fst (Option.some.inj hs)) (by decide))]
        exact ⟨_, _, _, rfl, rfl, rel2⟩
      | true =>
        rw [if_neg (show ¬ bI true = 0 by decide), one_ ⟨far, σ2, a1⟩]
        exact ⟨_, _, _, rfl, rfl, rel2⟩
  · rw [if_neg c, if_neg c, g3]
    unfold fX10_reach_13
    rw [g2]
    by_cases w : ¬ (0 ≤ a0 ∧ a0 < nI n)
    · rw [wi_f w, if_pos rfl, ii_f (show ¬ (0 ≤ a0 ∧ a0 ≤ nI n - 1) by
        by_cases z : n = 0
        · subst z; rw [show nI 0 - 1 = (-1 : Int32) from by decide]; grind
        · have e : nI n - 1 = nI (n - 1) := by
            have := nI_pred (n - 1)
            rwa [show n - 1 + 1 = n by omega] at this
          rintro ⟨q1, q2⟩
          rw [e] at q2
          refine w ⟨q1, ?_⟩
          have : nI (n - 1) < nI n := nI_lt (by omega) (by omega)
          grind), if_pos rfl]
      exact ⟨_, _, _, rfl, rfl, h⟩
    have w := Decidable.not_not.mp w
    obtain ⟨b, hb, rfl⟩ := i_of (n := n) (by omega) w.1 w.2
    have e : nI n - 1 = nI (n - 1) := by
      have := nI_pred (n - 1)
      rwa [show n - 1 + 1 = n by omega] at this
    obtain ⟨p1, p2, p3⟩ := g4 b hb
    rw [wi_t w, if_neg n10, ii_t (show 0 ≤ nI b ∧ nI b ≤ nI n - 1 from ⟨w.1, by rw [e]; exact nI_le (by omega) (by omega)⟩), if_neg n10]
    unfold fX11_reach_25
    rw [s1, s2]
    by_cases sz : S = 0
    · subst sz
      rw [if_pos (show nI 0 = 0 from rfl), if_pos (show nI 0 = 0 from rfl)]
      exact ⟨_, _, _, rfl, rfl, h⟩
    have sn : ¬ nI S = 0 := fun q => sz ((nI_e0 (by omega)).mp q)
    have sea : ¬ σ 10 3 = 0 := by rw [s1]; exact sn
    rw [if_neg sn, if_neg sn, p_rdL 0 0 rfl (by omega) (by omega), ← u1]
    by_cases gz : ¬ σ 10 6 = -1
    · rw [if_neg gz, if_neg gz]
      exact ⟨_, _, _, rfl, rfl, h⟩
    have gz := Decidable.not_not.mp gz
    rw [if_pos gz, if_pos gz, if_neg c, p_rdN (f := σ 1) (by omega) (by omega), p_rdN (f := τ 35) (by omega) (by omega), p2, p3, n1, n2, nI_add]
    by_cases far : ¬ N + ptN σ b ≤ 719
    · have nf : ¬ nI (N + ptN σ b) ≤ 719 := fun q => far ((nI_leI (b := 719) (by omega) (by omega)).mp q)
      rw [if_neg nf, if_neg nf]
      exact ⟨_, _, _, rfl, rfl, h⟩
    have far := Decidable.not_not.mp far
    have yf : nI (N + ptN σ b) ≤ 719 := nI_le (b := 719) far (by omega)
    obtain ⟨v, σ2, τ2, a1, a2, a3, a4, _⟩ := lasts_both h n1 far sea
    rw [if_pos yf, if_pos yf, a1, p_cb, if_neg c, p_rdN (f := τ 35) (by omega) (by omega), p3, a2, p_cb]
    refine ⟨bI v, σ2, τ2, ?_, ?_, a3⟩
    · cases v <;> rfl
    · cases v <;> rfl
