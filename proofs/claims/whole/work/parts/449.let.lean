/-! the ways through the code -/
theorem someP_L (env : Nat → Int32) (h : Nat) : ∀ Q : Pg, someP env h (-1) Q = someL env Q h := by
  intro Q
  induction Q with
  | nil => rfl
  | cons q r ih =>
    show ((q.1 == h && ((-1 : Int32) == -1 || (-1 : Int32) == nI q.2.1) && evB env q) || someP env h (-1) r) = someL env (q :: r) h
    rw [ih]
    unfold someL
    rw [List.any_cons]
    simp
theorem wb_ask {b c : Bool} : (b && !c) = true ↔ (b = true ∧ c = false) := by cases b <;> cases c <;> simp
theorem firstN_s (q : Nat → Bool) (n : Nat) : firstN q (n + 1) = match firstN q n with
    | some j => some j
    | none => if q n then some n else none := rfl
theorem firstN_none {q : Nat → Bool} : ∀ {n : Nat}, firstN q n = none → ∀ i, i < n → q i = false := by
  intro n
  induction n with
  | zero => intro _ i hi; omega
  | succ n ih =>
    intro h i hi
    rw [firstN_s] at h
    cases e : firstN q n with
    | some j => rw [e] at h; exact absurd h (by simp)
    | none =>
      rw [e] at h
      by_cases c : i = n
      · subst c
        by_cases d : q i = true
        · simp [d] at h
        · simpa using d
      · exact ih e i (by omega)
theorem firstN_some {q : Nat → Bool} : ∀ {n j : Nat}, firstN q n = some j → j < n ∧ q j = true ∧ ∀ i, i < j → q i = false := by
  intro n
  induction n with
  | zero => intro j h; exact absurd h (by simp [firstN])
  | succ n ih =>
    intro j h
    rw [firstN_s] at h
    cases e : firstN q n with
    | some k =>
      rw [e] at h
      have : k = j := by simpa using h
      subst this
      obtain ⟨a, b, c⟩ := ih e
      exact ⟨by omega, b, c⟩
    | none =>
      rw [e] at h
      by_cases d : q n = true
      · simp [d] at h
        subst h
        exact ⟨by omega, d, firstN_none e⟩
      · simp [d] at h
theorem firstV_s (can n : Nat) (q : Nat → Bool) (hn : n < 2100) (hc : can < 21) : firstV can (firstN q (n + 1)) = if q n then (if firstV can (firstN q n) = -1 then nI (1000000 * (n / 100) + 10000 * can + 100 * (n / 10 % 10) + n % 10) else firstV can (firstN q n)) else firstV can (firstN q n) := by
  rw [firstN_s]
  cases e : firstN q n with
  | some j =>
    have := (firstN_some e).1
    have : ¬ firstV can (some j) = -1 := nI_m1 (by omega)
    simp [this]
  | none =>
    by_cases d : q n = true
    · simp [d, firstV]
    · simp [d, firstV]
/-- what findWays may write -/
def wFr (w can : Nat) (σ σ' : St) : Prop := (∀ a, ¬ a = 31 → ¬ a = 32 → ¬ a = 33 → ¬ a = w + 6 → σ' a = σ a) ∧ ∀ i, ¬ i = can → σ' 31 i = σ 31 i ∧ σ' 32 i = σ 32 i
theorem wFr_r (w can : Nat) (σ : St) : wFr w can σ σ := ⟨fun _ _ _ _ _ => rfl, fun _ _ => ⟨rfl, rfl⟩⟩
theorem wFr_t {w can : Nat} {σ σ' σ'' : St} (h : wFr w can σ σ') (h' : wFr w can σ' σ'') : wFr w can σ σ'' := ⟨fun a h1 h2 h3 h4 => by rw [h'.1 a h1 h2 h3 h4, h.1 a h1 h2 h3 h4], fun i hi => ⟨by rw [(h'.2 i hi).1, (h.2 i hi).1], by rw [(h'.2 i hi).2, (h.2 i hi).2]⟩⟩
def wInv (w : Nat) (Q : Pg) (can j : Nat) (σ : St) : Prop := codeC σ w Q ∧ (σ 33 4 = 0 ∧ σ 33 5 = 0 ∧ σ 33 6 = 0 ∧ σ 33 7 = 1) ∧ σ 31 can = nI (cntN (wayJ Q can) j) ∧ σ 32 can = firstV can (firstN (wayJ Q can) j)
theorem envL_of {F : Nat → Int32} {a b c d : Nat} (h0 : F 0 = nI a) (h1 : F 1 = nI b) (h2 : F 2 = nI c) (h3 : F 3 = nI d) (h4 : F 4 = 0) (h5 : F 5 = 0) (h6 : F 6 = 0) (h7 : F 7 = 1) : ∀ j, j < 8 → F j = envL a b c d j := by
  intro j hj
  rcases lt8 hj with rfl | rfl | rfl | rfl | rfl | rfl | rfl | rfl
  · exact h0
  · exact h1
  · exact h2
  · exact h3
  · exact h4
  · exact h5
  · exact h6
  · exact h7
theorem bI_0 {b : Bool} : bI b = 0 ↔ b = false := by cases b <;> decide
theorem way_step {w said can age rain : Nat} {Q : Pg} {σ : St} {rec2 : St → Int32 → Int32 → Int32 → Option St} {rec11 : St → Int32 → Int32 → Int32 → Int32 → Option St} (hs : said < 21) (hc : can < 21) (ha : age < 10) (hr : rain < 10) (h : wInv w Q can (100 * said + 10 * age + rain) σ) : ∃ σ', fX1_findWaysOf_11B rec2 rec11 σ (nI said) (nI can) (nI age) (nI rain) = rec11 σ' (nI said) (nI can) (nI age) (nI (rain + 1)) ∧ wInv w Q can (100 * said + 10 * age + rain + 1) σ' ∧ wFr w can σ σ' := by
  obtain ⟨h1, ⟨v4, v5, v6, v7⟩, h3, h4⟩ := h
  have w44 := fW_ge h1.1
  unfold fX1_findWaysOf_11B
  rw [if_neg (show ¬ (10 : Int32) ≤ nI rain from fun q => absurd ((nI_leI (a := 10) (by omega) (by omega)).mp q) (by omega)), show nI rain + 1 = nI (rain + 1) from (nI_succ rain).symm]
  obtain ⟨σ1, u1, u2, u3, u4, u5, u6, u7⟩ := setPapers_C σ (nI said) (nI can) (nI age) (nI rain)
  rw [u1, p_cv]
  have c1 : codeC σ1 w Q := codeC_2 h1 (fun a h _ => u2 a h)
  obtain ⟨σ2, g1, g2⟩ := ask_C (h := 0) (env := envL said can age rain) (-1) c1 (by omega) (envL_of u3 u4 u5 u6 (by rw [u7 4 (by omega)]; exact v4) (by rw [u7 5 (by omega)]; exact v5) (by rw [u7 6 (by omega)]; exact v6) (by rw [u7 7 (by omega)]; exact v7))
  have c2 : codeC σ2 w Q := codeC_2 c1 (fun a _ h => g2 a h)
  have s33 : σ2 33 = σ1 33 := g2 33 (by omega)
  obtain ⟨σ3, k1, k2⟩ := ask_C (h := 1) (env := envL said can age rain) (-1) c2 (by omega) (by rw [s33]; exact envL_of u3 u4 u5 u6 (by rw [u7 4 (by omega)]; exact v4) (by rw [u7 5 (by omega)]; exact v5) (by rw [u7 6 (by omega)]; exact v6) (by rw [u7 7 (by omega)]; exact v7))
  have c3 : codeC σ3 w Q := codeC_2 c2 (fun a _ h => k2 a h)
  have t33 : σ3 33 = σ1 33 := by rw [k2 33 (by omega), s33]
  have f2 : wFr w can σ σ2 := ⟨fun a _ _ q3 q4 => by rw [g2 a q4, u2 a q3], fun i _ => by rw [g2 31 (by omega), g2 32 (by omega), u2 31 (by omega), u2 32 (by omega)]; exact ⟨rfl, rfl⟩⟩
  have f3 : wFr w can σ σ3 := wFr_t f2 ⟨fun a _ _ q3 q4 => k2 a q4, fun i _ => by rw [k2 31 (by omega), k2 32 (by omega)]; exact ⟨rfl, rfl⟩⟩
  have e31 : σ2 31 = σ 31 := by rw [g2 31 (by omega), u2 31 (by omega)]
  have e32 : σ2 32 = σ 32 := by rw [g2 32 (by omega), u2 32 (by omega)]
  have d31 : σ3 31 = σ 31 := by rw [k2 31 (by omega), e31]
  have d32 : σ3 32 = σ 32 := by rw [k2 32 (by omega), e32]
  have jj : wayJ Q can (100 * said + 10 * age + rain) = wayB Q said can age rain := by
    unfold wayJ
    rw [show (100 * said + 10 * age + rain) / 100 = said by omega, show (100 * said + 10 * age + rain) / 10 % 10 = age by omega, show (100 * said + 10 * age + rain) % 10 = rain by omega]
  have cs := cntN_s (wayJ Q can) (100 * said + 10 * age + rain)
  have fs := firstV_s can (100 * said + 10 * age + rain) (wayJ Q can) (by omega) hc
  rw [jj] at cs fs
  have vv : (σ1 33 4 = 0 ∧ σ1 33 5 = 0 ∧ σ1 33 6 = 0 ∧ σ1 33 7 = 1) := by
    rw [u7 4 (by omega), u7 5 (by omega), u7 6 (by omega), u7 7 (by omega)]; exact ⟨v4, v5, v6, v7⟩
  rw [show (0 : Int32) = nI 0 from rfl, g1, p_cb, show nI 0 = (0 : Int32) from rfl]
  have no : ∀ σ' : St, wayB Q said can age rain = false → codeC σ' w Q → σ' 33 = σ1 33 → σ' 31 = σ 31 → σ' 32 = σ 32 → wInv w Q can (100 * said + 10 * age + rain + 1) σ' := by
    intro σ' q q1 q2 q3 q4
    rw [q] at cs fs
    refine ⟨q1, by rw [q2]; exact vv, ?_, ?_⟩
    · rw [q3, cs]; simpa using h3
    · rw [q4, fs]; simpa using h4
  rw [someP_L]
  by_cases b0 : someL (envL said can age rain) Q 0 = true
  · rw [if_neg (fun q => by rw [bI_0.mp q] at b0; exact absurd b0 (by decide)), show fX1_someLine σ2 1 (-1) = _ from k1, p_cb, someP_L]
    by_cases b1 : someL (envL said can age rain) Q 1 = true
    · rw [if_neg (fun q => by rw [bI_0.mp q] at b1; exact absurd b1 (by decide))]
      exact ⟨σ3, rfl, no σ3 (by unfold wayB; rw [b0, b1]; rfl) c3 t33 d31 d32, f3⟩
    · have b1' : someL (envL said can age rain) Q 1 = false := by simpa using b1
      have yes : wayB Q said can age rain = true := by unfold wayB; rw [b0, b1']; rfl
      rw [yes] at cs fs
      simp only [if_true] at cs fs
      rw [if_pos (bI_0.mpr b1'), p_rdN hc (by omega), p_wrN hc (by omega), d31, h3, p_rdN hc (by omega), sp_ne (a := 32) (by omega), d32, h4, show nI (cntN (wayJ Q can) (100 * said + 10 * age + rain)) + 1 = nI (cntN (wayJ Q can) (100 * said + 10 * age + rain) + 1) from (nI_succ _).symm]
      have cA : codeC (st_put σ3 31 can (nI (cntN (wayJ Q can) (100 * said + 10 * age + rain) + 1))) w Q := codeC_fr c3 (by rw [sp_ne (by omega)]) (fun a _ _ => sp_ne (by omega))
      have fA : wFr w can σ (st_put σ3 31 can (nI (cntN (wayJ Q can) (100 * said + 10 * age + rain) + 1))) := wFr_t f3 ⟨fun a q _ _ _ => sp_ne q, fun i hi => ⟨by rw [sp_same, up_ne hi], by rw [sp_ne (by omega)]⟩⟩
      by_cases z : firstV can (firstN (wayJ Q can) (100 * said + 10 * age + rain)) = -1
      · rw [if_pos z, p_wrN hc (by omega)]
        rw [if_pos z] at fs
        have val : (((1000000 * nI said) + (10000 * nI can)) + (100 * nI age)) + nI rain = nI (1000000 * said + 10000 * can + 100 * age + rain) := by
          rw [show (1000000 : Int32) = nI 1000000 from rfl, show (10000 : Int32) = nI 10000 from rfl, show (100 : Int32) = nI 100 from rfl, pk_mul, pk_mul, pk_mul, nI_add, nI_add, nI_add]
        rw [val]
        refine ⟨_, rfl, ⟨codeC_fr cA (by rw [sp_ne (by omega)]) (fun a _ _ => sp_ne (by omega)), ?_, ?_, ?_⟩, wFr_t fA ⟨fun a _ q _ _ => sp_ne q, fun i hi => ⟨by rw [sp_ne (by omega)], by rw [sp_same, up_ne hi]⟩⟩⟩
        · rw [sp_ne (by omega), sp_ne (by omega), t33]; exact vv
        · rw [sp_ne (by omega), sp_same, up_same, cs]
        · rw [sp_same, up_same, fs, show (100 * said + 10 * age + rain) / 100 = said by omega, show (100 * said + 10 * age + rain) / 10 % 10 = age by omega, show (100 * said + 10 * age + rain) % 10 = rain by omega]
      · rw [if_neg z]
        rw [if_neg z] at fs
        refine ⟨_, rfl, ⟨cA, ?_, ?_, ?_⟩, fA⟩
        · rw [sp_ne (by omega), t33]; exact vv
        · rw [sp_same, up_same, cs]
        · rw [sp_ne (by omega), d32, h4, fs]
  · have b0' : someL (envL said can age rain) Q 0 = false := by simpa using b0
    rw [if_pos (bI_0.mpr b0')]
    exact ⟨σ2, rfl, no σ2 (by unfold wayB; rw [b0']; rfl) c2 s33 e31 e32, f2⟩
theorem w11_s (r : St → Int32 → Int32 → Int32 → Option St) (f : Nat) (σ : St) (a b c d : Int32) : fX1_findWaysOf_11 r (f + 1) σ a b c d = fX1_findWaysOf_11B r (fX1_findWaysOf_11 r f) σ a b c d := rfl
theorem w2_s (f : Nat) (σ : St) (a b c : Int32) : fX1_findWaysOf_2 (f + 1) σ a b c = fX1_findWaysOf_2B (fX1_findWaysOf_2 f) σ a b c := rfl
theorem w45_s (r : St → Int32 → Option St) (f : Nat) (σ : St) (a b : Int32) : fX1_findWays_45 r (f + 1) σ a b = fX1_findWays_45B r (fX1_findWays_45 r f) σ a b := rfl
theorem w23_s (f : Nat) (σ : St) (a : Int32) : fX1_findWays_23 (f + 1) σ a = fX1_findWays_23B (fX1_findWays_23 f) σ a := rfl
theorem way_rain {w said can age : Nat} {Q : Pg} {rec2 : St → Int32 → Int32 → Int32 → Option St} (hs : said < 21) (hc : can < 21) (ha : age < 10) : ∀ (d rain f : Nat) (σ : St), rain + d = 10 → d < f → wInv w Q can (100 * said + 10 * age + rain) σ → ∃ σ', fX1_findWaysOf_11 rec2 f σ (nI said) (nI can) (nI age) (nI rain) = rec2 σ' (nI said) (nI can) (nI (age + 1)) ∧ wInv w Q can (100 * said + 10 * (age + 1)) σ' ∧ wFr w can σ σ' := by
  intro d
  induction d with
  | zero =>
    intro rain f σ h1 h2 h
    obtain ⟨f, rfl⟩ : ∃ g, f = g + 1 := ⟨f - 1, by omega⟩
    have : rain = 10 := by omega
    subst this
    rw [w11_s]
    unfold fX1_findWaysOf_11B
    rw [if_pos (show (10 : Int32) ≤ nI 10 by decide), show nI age + 1 = nI (age + 1) from (nI_succ age).symm]
    exact ⟨σ, rfl, by rw [show 100 * said + 10 * (age + 1) = 100 * said + 10 * age + 10 by omega]; exact h, wFr_r _ _ _⟩
  | succ d ih =>
    intro rain f σ h1 h2 h
    obtain ⟨f, rfl⟩ : ∃ g, f = g + 1 := ⟨f - 1, by omega⟩
    rw [w11_s]
    obtain ⟨σ1, e1, e2, e3⟩ := way_step (rec2 := rec2) (rec11 := fX1_findWaysOf_11 rec2 f) hs hc ha (by omega) h
    obtain ⟨σ2, k1, k2, k3⟩ := ih (rain + 1) f σ1 (by omega) (by omega) e2
    exact ⟨σ2, by rw [e1, k1], k2, wFr_t e3 k3⟩
theorem way_age {w said can : Nat} {Q : Pg} (hs : said < 21) (hc : can < 21) : ∀ (d age f : Nat) (σ : St), age + d = 10 → d < f → wInv w Q can (100 * said + 10 * age) σ → ∃ σ', fX1_findWaysOf_2 f σ (nI said) (nI can) (nI age) = some σ' ∧ wInv w Q can (100 * (said + 1)) σ' ∧ wFr w can σ σ' := by
  intro d
  induction d with
  | zero =>
    intro age f σ h1 h2 h
    obtain ⟨f, rfl⟩ : ∃ g, f = g + 1 := ⟨f - 1, by omega⟩
    have : age = 10 := by omega
    subst this
    rw [w2_s]
    unfold fX1_findWaysOf_2B
    rw [if_pos (show (10 : Int32) ≤ nI 10 by decide)]
    exact ⟨σ, rfl, by rw [show 100 * (said + 1) = 100 * said + 10 * 10 by omega]; exact h, wFr_r _ _ _⟩
  | succ d ih =>
    intro age f σ h1 h2 h
    obtain ⟨f, rfl⟩ : ∃ g, f = g + 1 := ⟨f - 1, by omega⟩
    rw [w2_s]
    unfold fX1_findWaysOf_2B
    rw [if_neg (show ¬ (10 : Int32) ≤ nI age from fun q => absurd ((nI_leI (a := 10) (by omega) (by omega)).mp q) (by omega))]
    obtain ⟨σ1, e1, e2, e3⟩ := way_rain (rec2 := fX1_findWaysOf_2 f) hs hc (age := age) (by omega) 10 0 FU σ (by omega) (by rw [FU_eq]; omega) h
    obtain ⟨σ2, k1, k2, k3⟩ := ih (age + 1) f σ1 (by omega) (by omega) e2
    exact ⟨σ2, by rw [show (0 : Int32) = nI 0 from rfl, e1, k1], k2, wFr_t e3 k3⟩
theorem way_said {w can : Nat} {Q : Pg} {rec23 : St → Int32 → Option St} (hc : can < 21) : ∀ (d said f : Nat) (σ : St), said + d = 21 → d < f → wInv w Q can (100 * said) σ → ∃ σ', fX1_findWays_45 rec23 f σ (nI can) (nI said) = rec23 σ' (nI (can + 1)) ∧ wInv w Q can 2100 σ' ∧ wFr w can σ σ' := by
  intro d
  induction d with
  | zero =>
    intro said f σ h1 h2 h
    obtain ⟨f, rfl⟩ : ∃ g, f = g + 1 := ⟨f - 1, by omega⟩
    have : said = 21 := by omega
    subst this
    rw [w45_s]
    unfold fX1_findWays_45B
    rw [if_pos (show (21 : Int32) ≤ nI 21 by decide), show nI can + 1 = nI (can + 1) from (nI_succ can).symm]
    exact ⟨σ, rfl, h, wFr_r _ _ _⟩
  | succ d ih =>
    intro said f σ h1 h2 h
    obtain ⟨f, rfl⟩ : ∃ g, f = g + 1 := ⟨f - 1, by omega⟩
    rw [w45_s]
    unfold fX1_findWays_45B
    rw [if_neg (show ¬ (21 : Int32) ≤ nI said from fun q => absurd ((nI_leI (a := 21) (by omega) (by omega)).mp q) (by omega))]
    obtain ⟨σ1, e1, e2, e3⟩ := way_age (w := w) (said := said) (can := can) (Q := Q) (by omega) hc 10 0 FU σ (by omega) (by rw [FU_eq]; omega) h
    obtain ⟨σ2, k1, k2, k3⟩ := ih (said + 1) f σ1 (by omega) (by omega) e2
    refine ⟨σ2, ?_, k2, wFr_t e3 k3⟩
    rw [show fX1_findWaysOf σ (nI said) (nI can) = some σ1 from e1, p_cv, show nI said + 1 = nI (said + 1) from (nI_succ said).symm, k1]
/-- all cans -/
def wAll (w : Nat) (σ σ' : St) : Prop := ∀ a, ¬ a = 31 → ¬ a = 32 → ¬ a = 33 → ¬ a = w + 6 → σ' a = σ a
theorem way_can {w : Nat} {Q : Pg} : ∀ (d can f : Nat) (σ : St), can + d = 21 → d < f → codeC σ w Q → (σ 33 4 = 0 ∧ σ 33 5 = 0 ∧ σ 33 6 = 0 ∧ σ 33 7 = 1) → (∀ c, c < can → σ 31 c = nI (cntN (wayJ Q c) 2100) ∧ σ 32 c = firstV c (firstN (wayJ Q c) 2100)) → ∃ σ', fX1_findWays_23 f σ (nI can) = some σ' ∧ wAll w σ σ' ∧ ∀ c, c < 21 → σ' 31 c = nI (cntN (wayJ Q c) 2100) ∧ σ' 32 c = firstV c (firstN (wayJ Q c) 2100) := by
  intro d
  induction d with
  | zero =>
    intro can f σ h1 h2 h3 h4 h5
    obtain ⟨f, rfl⟩ : ∃ g, f = g + 1 := ⟨f - 1, by omega⟩
    have : can = 21 := by omega
    subst this
    rw [w23_s]
    unfold fX1_findWays_23B
    rw [if_pos (show (21 : Int32) ≤ nI 21 by decide)]
    exact ⟨σ, rfl, fun _ _ _ _ _ => rfl, h5⟩
  | succ d ih =>
    intro can f σ h1 h2 h3 h4 h5
    obtain ⟨f, rfl⟩ : ∃ g, f = g + 1 := ⟨f - 1, by omega⟩
    have hc : can < 21 := by omega
    have w44 := fW_ge h3.1
    rw [w23_s]
    unfold fX1_findWays_23B
    rw [if_neg (show ¬ (21 : Int32) ≤ nI can from fun q => absurd ((nI_leI (a := 21) (by omega) (by omega)).mp q) (by omega)), p_wrN hc (by omega), p_wrN hc (by omega)]
    generalize hT : st_put (st_put σ 31 can 0) 32 can (-1) = T
    have tT : ∀ a, ¬ a = 31 → ¬ a = 32 → T a = σ a := fun a q1 q2 => by rw [← hT, sp_ne q2, sp_ne q1]
    have cT : codeC T w Q := codeC_fr h3 (by rw [tT 30 (by omega) (by omega)]) (fun a _ _ => tT a (by omega) (by omega))
    obtain ⟨σ1, e1, e2, e3⟩ := way_said (w := w) (Q := Q) (rec23 := fX1_findWays_23 f) hc 21 0 FU T (by omega) (by rw [FU_eq]; omega) ⟨cT, by rw [tT 33 (by omega) (by omega)]; exact h4, by rw [← hT]; simp [st_put, st_row, upd, cntN]; rfl, by rw [← hT]; simp [st_put, st_row, upd, firstN, firstV]⟩
    obtain ⟨i1, i2, i3, i4⟩ := e2
    obtain ⟨σ2, k1, k2, k3⟩ := ih (can + 1) f σ1 (by omega) (by omega) i1 i2 (by
      intro c hc'
      by_cases q : c = can
      · subst q; exact ⟨i3, i4⟩
      · obtain ⟨q1, q2⟩ := e3.2 c q
        obtain ⟨q3, q4⟩ := h5 c (by omega)
        rw [q1, q2, ← hT]
        exact ⟨by simpa [st_put, st_row, upd, q] using q3, by simpa [st_put, st_row, upd, q] using q4⟩)
    refine ⟨σ2, ?_, fun a q1 q2 q3 q4 => by rw [k2 a q1 q2 q3 q4, e3.1 a q1 q2 q3 q4, tT a q1 q2], k3⟩
    rw [show (0 : Int32) = nI 0 from rfl, e1, k1]
theorem findWays_C {σ : St} {w : Nat} {Q : Pg} (hC : codeC σ w Q) (hw : r_ways (σ 30 1) (σ 31) (σ 32) Q) : ∃ σ', fX1_findWays σ = some σ' ∧ (∀ a, ¬ a = 30 → ¬ a = 31 → ¬ a = 32 → ¬ a = 33 → ¬ a = w + 6 → σ' a = σ a) ∧ σ' 30 0 = σ 30 0 ∧ σ' 30 1 = 1 ∧ ∀ c, c < 21 → σ' 31 c = nI (cntN (wayJ Q c) 2100) ∧ σ' 32 c = firstV c (firstN (wayJ Q c) 2100) := by
  have w44 := fW_ge hC.1
  unfold fX1_findWays
  rcases hw with q | ⟨q, hw⟩
  · rw [if_pos q, p_nmS]
    obtain ⟨σ1, u1, u2, u3, u4, u5, u6, u7⟩ := setVoyage_C (st_put σ 30 1 1) 0 0 0 1
    have c1 : codeC σ1 w Q := codeC_fr hC (by rw [u2 30 (by omega), sp_same, up_ne (by omega)]) (fun a _ _ => by rw [u2 a (by omega), sp_ne (by omega)])
    obtain ⟨σ2, k1, k2, k3⟩ := way_can (w := w) (Q := Q) 21 0 FU σ1 (by omega) (by rw [FU_eq]; omega) c1 ⟨u3, u4, u5, u6⟩ (fun c hc => by omega)
    rw [u1, p_cv]
    refine ⟨σ2, k1, fun a q0 q1 q2 q3 q4 => by rw [k2 a q1 q2 q3 q4, u2 a q3, sp_ne q0], ?_, ?_, k3⟩
    · rw [k2 30 (by omega) (by omega) (by omega) (by omega), u2 30 (by omega), sp_same, up_ne (by omega)]
    · rw [k2 30 (by omega) (by omega) (by omega) (by omega), u2 30 (by omega), sp_same, up_same]
  · rw [if_neg (by rw [q]; exact n10)]
    exact ⟨σ, rfl, fun _ _ _ _ _ _ => rfl, rfl, q, hw⟩

/-! how many, and the first -/
theorem sumG_split (g : Nat → Nat) : ∀ (m n j : Nat), sumG g j (m + n) = sumG g j m + sumG g (j + m) n := by
  intro m
  induction m with
  | zero => intro n j; simp [sumG]
  | succ m ih =>
    intro n j
    rw [show m + 1 + n = (m + n) + 1 by omega]
    show g j + sumG g (j + 1) (m + n) = g j + sumG g (j + 1) m + sumG g (j + (m + 1)) n
    rw [ih n (j + 1), show j + 1 + m = j + (m + 1) by omega]; omega
theorem sumG_shift (g : Nat → Nat) : ∀ (d j i : Nat), sumG g (j + i) d = sumG (fun r => g (j + r)) i d := by
  intro d
  induction d with
  | zero => intro j i; rfl
  | succ d ih =>
    intro j i
    show g (j + i) + sumG g (j + i + 1) d = g (j + i) + sumG (fun r => g (j + r)) (i + 1) d
    rw [← ih j (i + 1)]; rfl
theorem sumG_block (g : Nat → Nat) : ∀ (d j : Nat), sumG g (100 * j) (100 * d) = sumG (fun c => sumG (fun r => g (100 * c + r)) 0 100) j d := by
  intro d
  induction d with
  | zero => intro j; rw [Nat.mul_zero]; simp only [sumG]
  | succ d ih =>
    intro j
    show _ = sumG (fun r => g (100 * j + r)) 0 100 + sumG (fun c => sumG (fun r => g (100 * c + r)) 0 100) (j + 1) d
    rw [show 100 * (d + 1) = 100 + 100 * d by omega, sumG_split, ← ih (j + 1), show 100 * j + 100 = 100 * (j + 1) by omega, ← sumG_shift g 100 (100 * j) 0]; rfl
theorem sumG_swap (F : Nat → Nat → Nat) (i e : Nat) : ∀ (d j : Nat), sumG (fun s => sumG (fun c => F s c) j d) i e = sumG (fun c => sumG (fun s => F s c) i e) j d := by
  intro d
  induction d with
  | zero => intro j; exact sumG_zero e i
  | succ d ih =>
    intro j
    show sumG (fun s => F s j + sumG (fun c => F s c) (j + 1) d) i e = sumG (fun s => F s j) i e + sumG (fun c => sumG (fun s => F s c) i e) (j + 1) d
    rw [sumG_add, ih (j + 1)]
theorem cntN_sum (q : Nat → Bool) : ∀ n, cntN q n = sumG (fun i => if q i then 1 else 0) 0 n := by
  intro n
  induction n with
  | zero => rfl
  | succ n ih => rw [cntN_s, sumG_snoc, ih, Nat.zero_add]
def wayK (Q : Pg) (s k : Nat) : Bool := wayB Q s (k / 100) (k / 10 % 10) (k % 10)
theorem count_swap (Q : Pg) (lo : Nat) (h : lo ≤ 21) : sumG (fun s => sumG (fun k => if wayK Q s k then 1 else 0) (100 * lo) (2100 - 100 * lo)) 0 21 = sumG (fun c => cntN (wayJ Q c) 2100) lo (21 - lo) := by
  rw [show 2100 - 100 * lo = 100 * (21 - lo) by omega]
  have e1 : sumG (fun s => sumG (fun k => if wayK Q s k then 1 else 0) (100 * lo) (100 * (21 - lo))) 0 21 = sumG (fun s => sumG (fun c => sumG (fun r => if wayB Q s c (r / 10) (r % 10) then 1 else 0) 0 100) lo (21 - lo)) 0 21 := by
    refine sumG_congr _ _ (fun s _ _ => ?_)
    rw [sumG_block]
    refine sumG_congr _ _ (fun c _ _ => ?_)
    refine sumG_congr _ _ (fun r _ hr => ?_)
    unfold wayK
    rw [show (100 * c + r) / 100 = c by omega, show (100 * c + r) / 10 % 10 = r / 10 by omega, show (100 * c + r) % 10 = r % 10 by omega]
  rw [e1, sumG_swap]
  refine sumG_congr _ _ (fun c _ _ => ?_)
  rw [cntN_sum, show sumG (fun i => if wayJ Q c i then 1 else 0) 0 2100 = sumG (fun i => if wayJ Q c i then 1 else 0) (100 * 0) (100 * 21) from rfl, sumG_block]
  refine sumG_congr _ _ (fun s _ _ => ?_)
  refine sumG_congr _ _ (fun r _ hr => ?_)
  unfold wayJ
  rw [show (100 * s + r) / 100 = s by omega, show (100 * s + r) / 10 % 10 = r / 10 by omega, show (100 * s + r) % 10 = r % 10 by omega]
def wVal (s k : Nat) : Nat := 1000000 * s + 10000 * (k / 100) + 100 * (k / 10 % 10) + k % 10
def wMin (Q : Pg) (D : Nat → Nat → Prop) (x : Int32) : Prop := (x = -1 ∧ ∀ s k, D s k → wayK Q s k = false) ∨ ∃ s0 k0, s0 < 21 ∧ k0 < 2100 ∧ D s0 k0 ∧ wayK Q s0 k0 = true ∧ x = nI (wVal s0 k0) ∧ ∀ s k, D s k → wayK Q s k = true → wVal s0 k0 ≤ wVal s k
theorem wVal_lt {s k : Nat} (hs : s < 21) (hk : k < 2100) : wVal s k < 100000000 := by unfold wVal; omega
theorem wMin_u {Q : Pg} {D : Nat → Nat → Prop} {x y : Int32} (h1 : wMin Q D x) (h2 : wMin Q D y) : x = y := by
  rcases h1 with ⟨a1, a2⟩ | ⟨s, k, a0, a00, a1, a2, a3, a4⟩ <;> rcases h2 with ⟨b1, b2⟩ | ⟨s', k', b0, b00, b1, b2, b3, b4⟩
  · rw [a1, b1]
  · exact absurd (a2 s' k' b1) (by rw [b2]; decide)
  · exact absurd (b2 s k a1) (by rw [a2]; decide)
  · have := a4 s' k' b1 b2
    have := b4 s k a1 a2
    rw [a3, b3]; congr 1; omega
theorem waC_s (σ : St) (f : Nat) (a b : Int32) : fX1_waysAbove_10 σ (f + 1) a b = fX1_waysAbove_10B σ (fX1_waysAbove_10 σ f) a b := rfl
theorem faC_s (σ : St) (f : Nat) (a b : Int32) : fX1_firstAbove_10 σ (f + 1) a b = fX1_firstAbove_10B σ (fX1_firstAbove_10 σ f) a b := rfl
theorem waysAbove_C {σ : St} {g : Nat → Nat} (hg : ∀ c, c < 21 → σ 31 c = nI (g c)) : ∀ (d c f n : Nat), c + d = 21 → d < f → fX1_waysAbove_10 σ f (nI n) (nI c) = some (nI (n + sumG g c d)) := by
  intro d
  induction d with
  | zero =>
    intro c f n h1 h2
    obtain ⟨f, rfl⟩ : ∃ g, f = g + 1 := ⟨f - 1, by omega⟩
    have : c = 21 := by omega
    subst this
    rw [waC_s]; unfold fX1_waysAbove_10B
    rw [if_pos (show (21 : Int32) ≤ nI 21 by decide)]; rfl
  | succ d ih =>
    intro c f n h1 h2
    obtain ⟨f, rfl⟩ : ∃ g, f = g + 1 := ⟨f - 1, by omega⟩
    rw [waC_s]; unfold fX1_waysAbove_10B
    rw [if_neg (show ¬ (21 : Int32) ≤ nI c from fun q => absurd ((nI_leI (a := 21) (by omega) (by omega)).mp q) (by omega)), p_rdN (by omega) (by omega), hg c (by omega), nI_add, show nI c + 1 = nI (c + 1) from (nI_succ c).symm, ih (c + 1) f _ (by omega) (by omega)]
    show some (nI (n + g c + sumG g (c + 1) d)) = some (nI (n + (g c + sumG g (c + 1) d)))
    rw [Nat.add_assoc]
theorem firstV_min (Q : Pg) {c : Nat} (hc : c < 21) : wMin Q (fun s k => s < 21 ∧ k < 2100 ∧ k / 100 = c) (firstV c (firstN (wayJ Q c) 2100)) := by
  have key : ∀ s k, k < 2100 → k / 100 = c → wayJ Q c (100 * s + k % 100) = wayK Q s k := by
    intro s k hk e
    unfold wayJ wayK
    rw [show (100 * s + k % 100) / 100 = s by omega, show (100 * s + k % 100) / 10 % 10 = k / 10 % 10 by omega, show (100 * s + k % 100) % 10 = k % 10 by omega, e]
  cases e : firstN (wayJ Q c) 2100 with
  | none =>
    refine Or.inl ⟨rfl, fun s k ⟨h1, h2, h3⟩ => ?_⟩
    rw [← key s k h2 h3]
    exact firstN_none e _ (by omega)
  | some j =>
    obtain ⟨h1, h2, h3⟩ := firstN_some e
    have kk := key (j / 100) (100 * c + j % 100) (by omega) (by omega)
    rw [show 100 * (j / 100) + (100 * c + j % 100) % 100 = j by omega] at kk
    refine Or.inr ⟨j / 100, 100 * c + j % 100, by omega, by omega, ⟨by omega, by omega, by omega⟩, by rw [← kk]; exact h2, ?_, ?_⟩
    · exact congrArg nI (by unfold wVal; omega)
    · intro s k ⟨q1, q2, q3⟩ q4
      rw [← key s k q2 q3] at q4
      have : ¬ 100 * s + k % 100 < j := fun q => by rw [h3 _ q] at q4; exact absurd q4 (by decide)
      unfold wVal
      omega
theorem nI_ne_m1 {s k : Nat} (hs : s < 21) (hk : k < 2100) : ¬ nI (wVal s k) = -1 := nI_m1 (by have := wVal_lt hs hk; omega)
theorem firstAbove_C {σ : St} {Q : Pg} {lo : Nat} (hg : ∀ c, c < 21 → σ 32 c = firstV c (firstN (wayJ Q c) 2100)) : ∀ (d c f : Nat) (x : Int32), c + d = 21 → d < f → lo ≤ c → wMin Q (fun s k => s < 21 ∧ k < 2100 ∧ lo ≤ k / 100 ∧ k / 100 < c) x → ∃ r, fX1_firstAbove_10 σ f x (nI c) = some r ∧ wMin Q (fun s k => s < 21 ∧ k < 2100 ∧ lo ≤ k / 100 ∧ k / 100 < 21) r := by
  intro d
  induction d with
  | zero =>
    intro c f x h1 h2 hl h
    obtain ⟨f, rfl⟩ : ∃ g, f = g + 1 := ⟨f - 1, by omega⟩
    have : c = 21 := by omega
    subst this
    rw [faC_s]; unfold fX1_firstAbove_10B
    rw [if_pos (show (21 : Int32) ≤ nI 21 by decide)]
    exact ⟨x, rfl, h⟩
  | succ d ih =>
    intro c f x h1 h2 hl h
    obtain ⟨f, rfl⟩ : ∃ g, f = g + 1 := ⟨f - 1, by omega⟩
    rw [faC_s]; unfold fX1_firstAbove_10B
    rw [if_neg (show ¬ (21 : Int32) ≤ nI c from fun q => absurd ((nI_leI (a := 21) (by omega) (by omega)).mp q) (by omega)), p_rdN (by omega) (by omega), hg c (by omega), show nI c + 1 = nI (c + 1) from (nI_succ c).symm, p_rdN (by omega) (by omega), hg c (by omega)]
    have hv := firstV_min Q (c := c) (by omega)
    generalize hvv : firstV c (firstN (wayJ Q c) 2100) = v at hv
    simp only [p_rdN (show c < 21 by omega) (show 21 < 2147483648 by omega), hg c (show c < 21 by omega), hvv]
    have spl : ∀ k, k / 100 < c + 1 → k / 100 < c ∨ k / 100 = c := fun k h => by omega
    rcases hv with ⟨a1, a2⟩ | ⟨s', k', b0, b00, b1, b2, b3, b4⟩
    · rw [if_pos a1]
      refine ih (c + 1) f x (by omega) (by omega) (by omega) ?_
      rcases h with ⟨q1, q2⟩ | ⟨s, k, p0, p00, p1, p2, p3, p4⟩
      · refine Or.inl ⟨q1, fun s k ⟨z1, z2, z3, z4⟩ => ?_⟩
        rcases spl k z4 with z | z
        · exact q2 s k ⟨z1, z2, z3, z⟩
        · exact a2 s k ⟨z1, z2, z⟩
      · refine Or.inr ⟨s, k, p0, p00, ⟨p1.1, p1.2.1, p1.2.2.1, by omega⟩, p2, p3, fun s k ⟨z1, z2, z3, z4⟩ z5 => ?_⟩
        rcases spl k z4 with z | z
        · exact p4 s k ⟨z1, z2, z3, z⟩ z5
        · rw [a2 s k ⟨z1, z2, z⟩] at z5; exact absurd z5 (by decide)
    · have vn : ¬ v = -1 := by rw [b3]; exact nI_ne_m1 b0 b00
      rw [if_neg vn]
      rcases h with ⟨q1, q2⟩ | ⟨s, k, p0, p00, p1, p2, p3, p4⟩
      · rw [if_pos q1]
        refine ih (c + 1) f v (by omega) (by omega) (by omega) (Or.inr ⟨s', k', b0, b00, ⟨b1.1, b1.2.1, by omega, by omega⟩, b2, b3, fun s k ⟨z1, z2, z3, z4⟩ z5 => ?_⟩)
        rcases spl k z4 with z | z
        · rw [q2 s k ⟨z1, z2, z3, z⟩] at z5; exact absurd z5 (by decide)
        · exact b4 s k ⟨z1, z2, z⟩ z5
      · have xn : ¬ x = -1 := by rw [p3]; exact nI_ne_m1 p0 p00
        have l1 := wVal_lt p0 p00
        have l2 := wVal_lt b0 b00
        rw [if_neg xn]
        by_cases le : wVal s k ≤ wVal s' k'
        · rw [if_pos (by rw [p3, b3]; exact nI_le le (by omega))]
          refine ih (c + 1) f x (by omega) (by omega) (by omega) (Or.inr ⟨s, k, p0, p00, ⟨p1.1, p1.2.1, p1.2.2.1, by omega⟩, p2, p3, fun s k ⟨z1, z2, z3, z4⟩ z5 => ?_⟩)
          rcases spl k z4 with z | z
          · exact p4 s k ⟨z1, z2, z3, z⟩ z5
          · exact Nat.le_trans le (b4 s k ⟨z1, z2, z⟩ z5)
        · rw [if_neg (by rw [p3, b3]; exact fun q => le ((nI_leI (by omega) (by omega)).mp q))]
          refine ih (c + 1) f v (by omega) (by omega) (by omega) (Or.inr ⟨s', k', b0, b00, ⟨b1.1, b1.2.1, by omega, by omega⟩, b2, b3, fun s k ⟨z1, z2, z3, z4⟩ z5 => ?_⟩)
          rcases spl k z4 with z | z
          · exact Nat.le_trans (by omega) (p4 s k ⟨z1, z2, z3, z⟩ z5)
          · exact b4 s k ⟨z1, z2, z⟩ z5
/-! the model's two loops -/
theorem l83_s (r : St → Int32 → Int32 → Int32 → Int32 → Int32 → Option (Int32 × St)) (f : Nat) (τ : St) (a b c d e g : Int32) : fX11_let_83 r (f + 1) τ a b c d e g = fX11_let_83B r (fX11_let_83 r f) τ a b c d e g := rfl
theorem l68_s (f : Nat) (τ : St) (a b c d e : Int32) : fX11_let_68 (f + 1) τ a b c d e = fX11_let_68B (fX11_let_68 f) τ a b c d e := rfl
def lInv (Q : Pg) (τ : St) : Prop := codeM τ Q ∧ τ 24 12 = 0 ∧ τ 24 13 = 0 ∧ τ 24 14 = 0 ∧ τ 24 15 = 1
def lMin (Q : Pg) (lo s k n : Nat) (x : Int32) : Prop := wMin Q (fun s' k' => s' < 21 ∧ k' < 2100 ∧ lo ≤ k' / 100 ∧ (s' < s ∨ s' = s ∧ k' < k)) x ∧ (n = 0 ↔ x = -1)
theorem lMin_no {Q : Pg} {lo s k n : Nat} {x : Int32} (h : lMin Q lo s k n x) (hn : wayK Q s k = false) : lMin Q lo s (k + 1) n x := by
  obtain ⟨h, hx⟩ := h
  refine ⟨?_, hx⟩
  have spl : ∀ s' k', (s' < s ∨ s' = s ∧ k' < k + 1) → (s' < s ∨ s' = s ∧ k' < k) ∨ (s' = s ∧ k' = k) := fun s' k' h => by omega
  rcases h with ⟨q1, q2⟩ | ⟨s0, k0, p0, p00, p1, p2, p3, p4⟩
  · refine Or.inl ⟨q1, fun s' k' ⟨z1, z2, z3, z4⟩ => ?_⟩
    rcases spl s' k' z4 with z | ⟨rfl, rfl⟩
    · exact q2 s' k' ⟨z1, z2, z3, z⟩
    · exact hn
  · refine Or.inr ⟨s0, k0, p0, p00, ⟨p1.1, p1.2.1, p1.2.2.1, by omega⟩, p2, p3, fun s' k' ⟨z1, z2, z3, z4⟩ z5 => ?_⟩
    rcases spl s' k' z4 with z | ⟨rfl, rfl⟩
    · exact p4 s' k' ⟨z1, z2, z3, z⟩ z5
    · rw [hn] at z5; exact absurd z5 (by decide)
theorem lMin_yes {Q : Pg} {lo s k n : Nat} {x : Int32} (hs : s < 21) (hk : k < 2100) (hlo : lo ≤ k / 100) (h : lMin Q lo s k n x) (hn : wayK Q s k = true) : lMin Q lo s (k + 1) (n + 1) (if n = 0 then nI (wVal s k) else x) := by
  obtain ⟨h, hx⟩ := h
  have spl : ∀ s' k', (s' < s ∨ s' = s ∧ k' < k + 1) → (s' < s ∨ s' = s ∧ k' < k) ∨ (s' = s ∧ k' = k) := fun s' k' h => by omega
  rcases h with ⟨q1, q2⟩ | ⟨s0, k0, p0, p00, p1, p2, p3, p4⟩
  · rw [if_pos (hx.mpr q1)]
    refine ⟨Or.inr ⟨s, k, hs, hk, ⟨hs, hk, hlo, by omega⟩, hn, rfl, fun s' k' ⟨z1, z2, z3, z4⟩ z5 => ?_⟩, by omega, fun q => absurd q (nI_ne_m1 hs hk)⟩
    rcases spl s' k' z4 with z | ⟨rfl, rfl⟩
    · rw [q2 s' k' ⟨z1, z2, z3, z⟩] at z5; exact absurd z5 (by decide)
    · exact Nat.le_refl _
  · have xn : ¬ x = -1 := by rw [p3]; exact nI_ne_m1 p0 p00
    rw [if_neg (fun q => xn (hx.mp q))]
    refine ⟨Or.inr ⟨s0, k0, p0, p00, ⟨p1.1, p1.2.1, p1.2.2.1, by omega⟩, p2, p3, fun s' k' ⟨z1, z2, z3, z4⟩ z5 => ?_⟩, by omega, fun q => absurd q xn⟩
    rcases spl s' k' z4 with z | ⟨rfl, rfl⟩
    · exact p4 s' k' ⟨z1, z2, z3, z⟩ z5
    · obtain ⟨y1, y2, y3, y4⟩ := p1
      unfold wVal
      omega
theorem let_in {Q : Pg} {lo s : Nat} {x1 x2 : Int32} {rec68 : St → Int32 → Int32 → Int32 → Int32 → Int32 → Option (Int32 × St)} (hs : s < 21) : ∀ (d k f n : Nat) (τ : St) (x : Int32), k + d = 2100 → d < f → n + d ≤ 2100 * (s + 1) → 100 * lo ≤ k → lInv Q τ → lMin Q lo s k n x → ∃ τ' x', fX11_let_83 rec68 f τ x1 x2 (nI n) x (nI s) (nI k) = rec68 τ' x1 x2 (nI (n + sumG (fun k => if wayK Q s k then 1 else 0) k d)) x' (nI (s + 1)) ∧ lInv Q τ' ∧ same2 24 25 τ τ' ∧ lMin Q lo s 2100 (n + sumG (fun k => if wayK Q s k then 1 else 0) k d) x' := by
  intro d
  induction d with
  | zero =>
    intro k f n τ x h1 h2 hnd hl hi h
    obtain ⟨f, rfl⟩ : ∃ g, f = g + 1 := ⟨f - 1, by omega⟩
    have : k = 2100 := by omega
    subst this
    rw [l83_s]; unfold fX11_let_83B
    rw [if_pos (show (2100 : Int32) ≤ nI 2100 by decide), show nI s + 1 = nI (s + 1) from (nI_succ s).symm]
    exact ⟨τ, x, rfl, hi, same2_r _ _ _, h⟩
  | succ d ih =>
    intro k f n τ x h1 h2 hnd hl hi h
    obtain ⟨f, rfl⟩ : ∃ g, f = g + 1 := ⟨f - 1, by omega⟩
    rw [l83_s]; unfold fX11_let_83B
    have d100 : nI k / 100 = nI (k / 100) := by rw [show (100 : Int32) = nI 100 from rfl, pk_div (by omega) (by omega) (by omega)]
    have d10 : nI k / 10 = nI (k / 10) := by rw [show (10 : Int32) = nI 10 from rfl, pk_div (by omega) (by omega) (by omega)]
    have r10 : nI k - nI (k / 10) * 10 = nI (k % 10) := by rw [← d10]; exact pk_rem (d := 10) (by omega) (by omega) (by omega)
    have r100 : nI (k / 10) - nI (k / 10) / 10 * 10 = nI (k / 10 % 10) := pk_rem (d := 10) (by omega) (by omega) (by omega)
    rw [if_neg (show ¬ (2100 : Int32) ≤ nI k from fun q => absurd ((nI_leI (a := 2100) (by omega) (by omega)).mp q) (by omega)), d100, d10, r10, r100, p_wrL 9 9 rfl (by omega) (by omega), p_wrL 10 10 rfl (by omega) (by omega), p_wrL 11 11 rfl (by omega) (by omega), p_wrL 5 5 rfl (by omega) (by omega), show nI k + 1 = nI (k + 1) from (nI_succ k).symm]
    generalize hT : st_put (st_put (st_put (st_put τ 24 9 (nI s)) 24 10 (nI (k / 100))) 24 11 (nI (k / 10 % 10))) 24 5 (nI (k % 10)) = T
    have tT : same2 24 25 τ T := fun a q _ => by rw [← hT, sp_ne q, sp_ne q, sp_ne q, sp_ne q]
    obtain ⟨i1, i2, i3, i4, i5⟩ := hi
    have en : ∀ j, j < 8 → T 24 (mpC j) = envL s (k / 100) (k / 10 % 10) (k % 10) j := envL_of (F := fun j => T 24 (mpC j)) (by rw [← hT]; simp [st_put, st_row, upd, mpC]) (by rw [← hT]; simp [st_put, st_row, upd, mpC]) (by rw [← hT]; simp [st_put, st_row, upd, mpC]) (by rw [← hT]; simp [st_put, st_row, upd, mpC]) (by rw [← hT]; simpa [st_put, st_row, upd, mpC] using i2) (by rw [← hT]; simpa [st_put, st_row, upd, mpC] using i3) (by rw [← hT]; simpa [st_put, st_row, upd, mpC] using i4) (by rw [← hT]; simpa [st_put, st_row, upd, mpC] using i5)
    have cT := codeM_2 i1 tT
    obtain ⟨τ1, g1, g2⟩ := ask_M (h := 0) (-1) cT (by omega) en
    have t1 : same2 24 25 T τ1 := fun a _ q => g2 a q
    have e1 : τ1 24 = T 24 := g2 24 (by omega)
    obtain ⟨τ2, k1, k2⟩ := ask_M (h := 1) (-1) (codeM_2 cT t1) (by omega) (by rw [e1]; exact en)
    have t2 : same2 24 25 τ1 τ2 := fun a _ q => k2 a q
    have e2 : τ2 24 = T 24 := by rw [k2 24 (by omega), e1]
    have vT : T 24 12 = 0 ∧ T 24 13 = 0 ∧ T 24 14 = 0 ∧ T 24 15 = 1 := by
      rw [← hT]
      exact ⟨by simpa [st_put, st_row, upd] using i2, by simpa [st_put, st_row, upd] using i3, by simpa [st_put, st_row, upd] using i4, by simpa [st_put, st_row, upd] using i5⟩
    have v1 : lInv Q τ1 := ⟨codeM_2 cT t1, by rw [e1]; exact vT⟩
    have v2 : lInv Q τ2 := ⟨codeM_2 (codeM_2 cT t1) t2, by rw [e2]; exact vT⟩
    have su : sumG (fun k => if wayK Q s k then 1 else 0) k (d + 1) = (if wayK Q s k then 1 else 0) + sumG (fun k => if wayK Q s k then 1 else 0) (k + 1) d := rfl
    have no : ∀ τ' : St, wayK Q s k = false → lInv Q τ' → same2 24 25 τ τ' → ∃ τ'' x', fX11_let_83 rec68 f τ' x1 x2 (nI n) x (nI s) (nI (k + 1)) = rec68 τ'' x1 x2 (nI (n + sumG (fun k => if wayK Q s k then 1 else 0) k (d + 1))) x' (nI (s + 1)) ∧ lInv Q τ'' ∧ same2 24 25 τ τ'' ∧ lMin Q lo s 2100 (n + sumG (fun k => if wayK Q s k then 1 else 0) k (d + 1)) x' := by
      intro τ' q q1 q2
      obtain ⟨τ3, x', b1, b2, b3, b4⟩ := ih (k + 1) f n τ' x (by omega) (by omega) (by omega) (by omega) q1 (lMin_no h q)
      rw [su, q, if_neg (by decide), Nat.zero_add]
      exact ⟨τ3, x', b1, b2, same2_t q2 b3, b4⟩
    rw [show fX11_isSo T 4 (-1) = _ from g1, p_cb, someP_L]
    by_cases b0 : someL (envL s (k / 100) (k / 10 % 10) (k % 10)) Q 0 = true
    · rw [if_neg (fun q => by rw [bI_0.mp q] at b0; exact absurd b0 (by decide)), show fX11_isSo τ1 5 (-1) = _ from k1, p_cb, someP_L]
      by_cases b1 : someL (envL s (k / 100) (k / 10 % 10) (k % 10)) Q 1 = true
      · rw [if_neg (fun q => by rw [bI_0.mp q] at b1; exact absurd b1 (by decide))]
        exact no τ2 (by unfold wayK wayB; rw [b0, b1]; rfl) v2 (same2_t tT (same2_t t1 t2))
      · have b1' : someL (envL s (k / 100) (k / 10 % 10) (k % 10)) Q 1 = false := by simpa using b1
        have yes : wayK Q s k = true := by unfold wayK wayB; rw [b0, b1']; rfl
        have hm := lMin_yes hs (by omega) (by omega) h yes
        have nn : nI n = 0 ↔ n = 0 := nI_e0 (by omega)
        rw [if_pos (bI_0.mpr b1')]
        obtain ⟨τ3, x', c1, c2, c3, c4⟩ := ih (k + 1) f (n + 1) τ2 _ (by omega) (by omega) (by omega) (by omega) v2 hm
        rw [su, yes, if_pos rfl, ← Nat.add_assoc]
        refine ⟨τ3, x', ?_, c2, same2_t (same2_t tT (same2_t t1 t2)) c3, c4⟩
        rw [← c1, nI_succ n]
        by_cases z : n = 0
        · rw [if_pos (nn.mpr z), if_pos z, p_nm]
          rw [show (1000000 : Int32) = nI 1000000 from rfl, show (10000 : Int32) = nI 10000 from rfl, show (100 : Int32) = nI 100 from rfl, pk_mul, pk_mul, pk_mul, nI_add, nI_add, nI_add]
          rfl
        · rw [if_neg (fun q => z (nn.mp q)), if_neg z]
    · have b0' : someL (envL s (k / 100) (k / 10 % 10) (k % 10)) Q 0 = false := by simpa using b0
      rw [if_pos (bI_0.mpr b0')]
      exact no τ1 (by unfold wayK wayB; rw [b0']; rfl) v1 (same2_t tT t1)
theorem let_out {Q : Pg} {a : Nat} {x2 : Int32} (ha : a < 21) : ∀ (d s f n : Nat) (τ : St) (x : Int32), s + d = 21 → d < f → n ≤ 2100 * s → lInv Q τ → lMin Q (a + 1) s 0 n x → ∃ τ' x', fX11_let_68 f τ (nI a) x2 (nI n) x (nI s) = some (if x2 = 0 then nI (n + sumG (fun s => sumG (fun k => if wayK Q s k then 1 else 0) (100 * (a + 1)) (2100 - 100 * (a + 1))) s d) else x', τ') ∧ same2 24 25 τ τ' ∧ ∃ m, lMin Q (a + 1) 21 0 m x' := by
  intro d
  induction d with
  | zero =>
    intro s f n τ x h1 h2 hn hi h
    obtain ⟨f, rfl⟩ : ∃ g, f = g + 1 := ⟨f - 1, by omega⟩
    have : s = 21 := by omega
    subst this
    rw [l68_s]; unfold fX11_let_68B
    rw [if_pos (show (20 : Int32) < nI 21 by decide)]
    refine ⟨τ, x, ?_, same2_r _ _ _, n, h⟩
    by_cases z : x2 = 0
    · rw [if_pos z, if_pos z]; rfl
    · rw [if_neg z, if_neg z]
  | succ d ih =>
    intro s f n τ x h1 h2 hn hi h
    obtain ⟨f, rfl⟩ : ∃ g, f = g + 1 := ⟨f - 1, by omega⟩
    rw [l68_s]; unfold fX11_let_68B
    have ka : (nI a + 1) * 100 = nI (100 * (a + 1)) := by rw [show nI a + 1 = nI (a + 1) from (nI_succ a).symm, show (100 : Int32) = nI 100 from rfl, pk_mul, Nat.mul_comm]
    rw [if_neg (show ¬ (20 : Int32) < nI s from fun q => absurd ((nI_ltI (a := 20) (by omega) (by omega)).mp q) (by omega)), ka]
    have h' : lMin Q (a + 1) s (100 * (a + 1)) n x := by
      obtain ⟨g1, g2⟩ := h
      refine ⟨?_, g2⟩
      rcases g1 with ⟨q1, q2⟩ | ⟨s0, k0, p0, p00, p1, p2, p3, p4⟩
      · exact Or.inl ⟨q1, fun s' k' ⟨z1, z2, z3, z4⟩ => q2 s' k' ⟨z1, z2, z3, by omega⟩⟩
      · exact Or.inr ⟨s0, k0, p0, p00, ⟨p1.1, p1.2.1, p1.2.2.1, by omega⟩, p2, p3, fun s' k' ⟨z1, z2, z3, z4⟩ => p4 s' k' ⟨z1, z2, z3, by omega⟩⟩
    have hf : 2100 - 100 * (a + 1) < FU := by rw [FU_eq]; omega
    obtain ⟨τ1, x', c1, c2, c3, c4⟩ := let_in (Q := Q) (lo := a + 1) (s := s) (x1 := nI a) (x2 := x2) (rec68 := fX11_let_68 f) (by omega) (2100 - 100 * (a + 1)) (100 * (a + 1)) FU n τ x (by omega) hf (by omega) (by omega) hi h'
    have hle : sumG (fun k => if wayK Q s k then 1 else 0) (100 * (a + 1)) (2100 - 100 * (a + 1)) ≤ 2100 := by
      have := sumG_le (fun k => if wayK Q s k then 1 else 0) 1 (fun i => by split <;> omega) (2100 - 100 * (a + 1)) (100 * (a + 1))
      omega
    have h'' : lMin Q (a + 1) (s + 1) 0 (n + sumG (fun k => if wayK Q s k then 1 else 0) (100 * (a + 1)) (2100 - 100 * (a + 1))) x' := by
      obtain ⟨g1, g2⟩ := c4
      refine ⟨?_, g2⟩
      rcases g1 with ⟨q1, q2⟩ | ⟨s0, k0, p0, p00, p1, p2, p3, p4⟩
      · exact Or.inl ⟨q1, fun s' k' ⟨z1, z2, z3, z4⟩ => q2 s' k' ⟨z1, z2, z3, by omega⟩⟩
      · exact Or.inr ⟨s0, k0, p0, p00, ⟨p1.1, p1.2.1, p1.2.2.1, by omega⟩, p2, p3, fun s' k' ⟨z1, z2, z3, z4⟩ => p4 s' k' ⟨z1, z2, z3, by omega⟩⟩
    obtain ⟨τ2, x'', e1, e2, e3⟩ := ih (s + 1) f _ τ1 x' (by omega) (by omega) (by omega) c2 h''
    rw [c1, e1]
    refine ⟨τ2, x'', ?_, same2_t c3 e2, e3⟩
    show _ = some (if x2 = 0 then nI (n + (sumG (fun k => if wayK Q s k then 1 else 0) (100 * (a + 1)) (2100 - 100 * (a + 1)) + sumG (fun s => sumG (fun k => if wayK Q s k then 1 else 0) (100 * (a + 1)) (2100 - 100 * (a + 1))) (s + 1) d)) else x'', τ2)
    rw [Nat.add_assoc]
theorem opp_25 : op_25 Rel := by
  intro σ τ0 a0 a1 h0
  have h := rel_told h0 0
  generalize hτ : st_put τ0 0 0 0 = τ at h
  unfold fX10_let fX11_let
  rw [p_nmS, hτ]
  by_cases c0 : ¬ (0 ≤ a0 ∧ a0 < 21)
  · rw [wi_f c0, ii_f (show ¬ (0 ≤ a0 ∧ a0 ≤ 20) by grind), if_pos rfl, if_pos rfl]
    exact ⟨_, _, _, rfl, rfl, h⟩
  have c0 := Decidable.not_not.mp c0
  rw [wi_t c0, ii_t (show 0 ≤ a0 ∧ a0 ≤ 20 by grind), if_neg n10, if_neg n10]
  by_cases c1 : ¬ (0 ≤ a1 ∧ a1 < 2)
  · rw [wi_f c1, ii_f (show ¬ (0 ≤ a1 ∧ a1 ≤ 1) by grind), if_pos rfl, if_pos rfl]
    exact ⟨_, _, _, rfl, rfl, h⟩
  have c1 := Decidable.not_not.mp c1
  rw [wi_t c1, ii_t (show 0 ≤ a1 ∧ a1 ≤ 1 by grind), if_neg n10, if_neg n10]
  obtain ⟨a, ha, rfl⟩ := i_of (n := 21) (by omega) c0.1 c0.2
  obtain ⟨P, Q, x, y, w, hx⟩ := g_txtAt h
  obtain ⟨hC, hM, hw⟩ := at_code hx
  have w44 := fW_ge hC.1
  obtain ⟨σ1, u1, u2, u3, u4, u5⟩ := findWays_C hC hw
  rw [u1, p_cv, p_wrL 12 12 rfl (by omega) (by omega), p_wrL 13 13 rfl (by omega) (by omega), p_wrL 14 14 rfl (by omega) (by omega), p_wrL 15 15 rfl (by omega) (by omega)]
  generalize hT : st_put (st_put (st_put (st_put τ 24 12 0) 24 13 0) 24 14 0) 24 15 1 = T
  have tT : same2 24 25 τ T := fun a q _ => by rw [← hT, sp_ne q, sp_ne q, sp_ne q, sp_ne q]
  obtain ⟨τ', x', e1, e2, m, e3, _⟩ := let_out (Q := Q) (a := a) (x2 := a1) ha 21 0 FU 0 T (-1) (by omega) (by rw [FU_eq]; omega) (by omega) ⟨codeM_2 hM tT, by rw [← hT]; simp [st_put, st_row, upd], by rw [← hT]; simp [st_put, st_row, upd], by rw [← hT]; simp [st_put, st_row, upd], by rw [← hT]; simp [st_put, st_row, upd]⟩ ⟨Or.inl ⟨rfl, fun s k hh => by omega⟩, by decide⟩
  have rel : Rel σ1 τ' := by
    refine rel_txt h ?_ ?_ ?_ ?_ ?_ ?_ ?_
    · intro b hb
      refine u2 b ?_ ?_ ?_ ?_ ?_ <;> rintro rfl <;> revert hb
      · decide
      · decide
      · decide
      · decide
      · rcases hC.1 with rfl | rfl | rfl <;> decide
    · intro b hb
      rw [e2 b (fun q => by subst q; exact absurd hb (by decide)) (fun q => by subst q; exact absurd hb (by decide)), tT b (fun q => by subst q; exact absurd hb (by decide)) (fun q => by subst q; exact absurd hb (by decide))]
    · rw [u2 24 (by omega) (by omega) (by omega) (by omega) (by omega)]
    · rw [u2 28 (by omega) (by omega) (by omega) (by omega) (by omega)]
    · intro j _; rw [e2 0 (by omega) (by omega), tT 0 (by omega) (by omega)]
    · rw [u2 24 (by omega) (by omega) (by omega) (by omega) (by omega), e2 0 (by omega) (by omega), tT 0 (by omega) (by omega)]; exact g_fault h
    · exact r_txt_ways hx u2 u3 (fun b q1 q2 => by rw [e2 b (by omega) (by omega), tT b (by omega) (by omega)]) (Or.inr ⟨u4, u5⟩)
  rw [show fX11_let_68 FU T (nI a) a1 0 (-1) 0 = _ from e1]
  have pa : (if 0 < nI a + 1 then nI a + 1 else 0) = nI (a + 1) := by
    rw [show nI a + 1 = nI (a + 1) from (nI_succ a).symm, if_pos ((nI_0lt (by omega)).mpr (by omega))]
  by_cases z : a1 = 0
  · rw [if_pos z, if_pos z]
    have := waysAbove_C (σ := σ1) (g := fun c => cntN (wayJ Q c) 2100) (fun c hc => (u5 c hc).1) (21 - (a + 1)) (a + 1) FU 0 (by omega) (by rw [FU_eq]; omega)
    unfold fX1_waysAbove
    rw [pa, show (0 : Int32) = nI 0 from rfl, this, p_cq, count_swap Q (a + 1) (by omega)]
    exact ⟨_, _, _, rfl, rfl, rel⟩
  · rw [if_neg z, if_neg z]
    unfold fX1_firstAbove
    obtain ⟨r, q1, q2⟩ := firstAbove_C (σ := σ1) (Q := Q) (lo := a + 1) (fun c hc => (u5 c hc).2) (21 - (a + 1)) (a + 1) FU (-1) (by omega) (by rw [FU_eq]; omega) (Nat.le_refl _) (Or.inl ⟨rfl, fun s k hh => by omega⟩)
    rw [pa, q1, p_cq]
    have : r = x' := by
      refine wMin_u q2 ?_
      rcases e3 with ⟨q1, q2⟩ | ⟨s0, k0, p0, p00, p1, p2, p3, p4⟩
      · exact Or.inl ⟨q1, fun s' k' ⟨z1, z2, z3, z4⟩ => q2 s' k' ⟨z1, z2, z3, by omega⟩⟩
      · exact Or.inr ⟨s0, k0, p0, p00, ⟨p1.1, p1.2.1, p1.2.2.1, by omega⟩, p2, p3, fun s' k' ⟨z1, z2, z3, z4⟩ => p4 s' k' ⟨z1, z2, z3, by omega⟩⟩
    rw [this]
    exact ⟨_, _, _, rfl, rfl, rel⟩
