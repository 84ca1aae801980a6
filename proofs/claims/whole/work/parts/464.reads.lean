/-! the model reads a token -/
def tokOK (laws : Bool) (κ : Nat) (t v : Int32) : Prop := (κ = 0 ∧ t = 0) ∨ (κ = 1 ∧ (t = 1 ∨ (t = 2 ∧ ∃ j, j < 27 ∧ badW laws j = true ∧ v = nI j))) ∨ (sigB κ = true ∧ t = 4 ∧ v = nI κ) ∨ (∃ i, i < wlN laws ∧ κ = 256 + i ∧ t = 2 ∧ v = nI (mwN laws i)) ∨ (∃ m, m ≤ 9999 ∧ κ = 1000 + m ∧ t = 3 ∧ v = nI m)
def frR (τ τ' : St) : Prop := (∀ a, ¬ a = 0 → τ' a = τ a) ∧ ∀ j, ¬ (19 ≤ j ∧ j ≤ 22) → τ' 0 j = τ 0 j
theorem frR_r (τ : St) : frR τ τ := ⟨fun _ _ => rfl, fun _ _ => rfl⟩
theorem frR_t {τ τ' τ'' : St} (h : frR τ τ') (h' : frR τ' τ'') : frR τ τ'' := ⟨fun a ha => by rw [h'.1 a ha, h.1 a ha], fun j hj => by rw [h'.2 j hj, h.2 j hj]⟩
theorem frR_p {τ : St} {j : Nat} {v : Int32} (hj : 19 ≤ j ∧ j ≤ 22) : frR τ (st_put τ 0 j v) := ⟨fun a ha => sp_ne ha, fun i hi => by rw [sp_same, up_ne (by omega)]⟩
/-- what reading needs -/
def rdOK (τ : St) (T : Nat → Nat) (len : Nat) : Prop := len ≤ 600 ∧ τ 0 18 = nI len ∧ (∀ j, j < len → τ 13 j = nI (T j) ∧ T j < 256) ∧ r_wordsM (τ 14)
theorem rdOK_f {τ τ' : St} {T : Nat → Nat} {len : Nat} (h : rdOK τ T len) (hf : frR τ τ') : rdOK τ' T len := by
  obtain ⟨h1, h2, h3, h4⟩ := h
  exact ⟨h1, by rw [hf.2 18 (by omega)]; exact h2, by rw [hf.1 13 (by omega)]; exact h3, by rw [hf.1 14 (by omega)]; exact h4⟩
theorem raw_M {τ : St} {T : Nat → Nat} {len p : Nat} (h : rdOK τ T len) (hp : p ≤ len) : fX11_raw τ (nI p) = some (if p < len then nI (T p) else -1) := by
  obtain ⟨h1, h2, h3, h4⟩ := h
  unfold fX11_raw
  rw [h2]
  by_cases c : p < len
  · rw [if_neg (fun q => absurd ((nI_leI (by omega) (by omega)).mp q) (by omega)), p_rdN (by omega) (by omega), (h3 p c).1, if_pos c]
  · rw [if_pos (nI_le (by omega) (by omega)), if_neg c]
theorem r95_s (f : Nat) (τ : St) : fX11_reads_95 (f + 1) τ = fX11_reads_95B (fX11_reads_95 f) τ := rfl
theorem r171_s (f : Nat) (τ : St) : fX11_reads_171 (f + 1) τ = fX11_reads_171B (fX11_reads_171 f) τ := rfl
theorem r0_s (f : Nat) (τ : St) : fX11_reads_0 (f + 1) τ = fX11_reads_0B (fX11_reads_0 f) τ := rfl
theorem numV_snoc {T : Nat → Nat} : ∀ (d acc p : Nat), numV T acc p (d + 1) = 10 * numV T acc p d + (T (p + d) - 48) := by
  intro d
  induction d with
  | zero => intro acc p; rw [numV_s]; simp [numV, numW]
  | succ d ih =>
    intro acc p
    rw [numV_s, ih, ← numV_s, show p + 1 + d = p + (d + 1) by omega]
theorem lett32 {c : Nat} (h : lettB c = true) : ¬ c = 32 := by rintro rfl; exact absurd h (by decide)
theorem reads_w {τ0 : St} {T : Nat → Nat} {len s : Nat} (h0 : rdOK τ0 T len) : ∀ (d q f : Nat) (τ : St), q + d = len → d < f → s ≤ q → frR τ0 τ → τ 0 19 = nI q → τ 0 20 = nI s → (∀ j, s ≤ j → j < q → lettB (T j) = true) → ∃ τ', fX11_reads_95 f τ = some τ' ∧ frR τ0 τ' ∧ τ' 0 19 = nI (runE (fun j => lettB (T j)) q (len - q)) ∧ τ' 0 20 = nI s ∧ τ' 0 22 = fmW T s (runE (fun j => lettB (T j)) q (len - q)) WM 0 ∧ τ' 0 21 = (if fmW T s (runE (fun j => lettB (T j)) q (len - q)) WM 0 = -1 then τ 0 21 else 2) := by
  intro d
  induction d with
  | zero =>
    intro q f τ h1 h2 hs hf e19 e20 hl
    obtain ⟨f, rfl⟩ : ∃ g, f = g + 1 := ⟨f - 1, by omega⟩
    have hT := rdOK_f h0 hf
    have : q = len := by omega
    subst this
    rw [r95_s]; unfold fX11_reads_95B
    rw [e19, raw_M hT (Nat.le_refl _), if_neg (by omega), p_cq, if_pos (show fX11_isLetter (-1) = 0 by decide), e20, wordAt_M hT.2.2.2 hT.1 hs (fun j hj => (hT.2.2.1 j hj).1) (fun j q1 q2 => ⟨(hT.2.2.1 j q2).2, lett32 (hl j q1 q2)⟩), p_cq, p_nmS, Nat.sub_self]
    rw [show runE (fun j => lettB (T j)) q 0 = q from rfl, show st_put τ 0 22 (fmW T s q WM 0) 0 22 = fmW T s q WM 0 by rw [sp_same, up_same]]
    by_cases c : fmW T s q WM 0 = -1
    · rw [if_pos c, if_pos c]
      exact ⟨_, rfl, frR_t hf (frR_p (by omega)), by rw [sp_same, up_ne (by omega)]; exact e19, by rw [sp_same, up_ne (by omega)]; exact e20, by rw [sp_same, up_same], by rw [sp_same, up_ne (by omega)]⟩
    · rw [if_neg c, if_neg c, p_nmS]
      exact ⟨_, rfl, frR_t (frR_t hf (frR_p (by omega))) (frR_p (by omega)), by rw [sp_same, up_ne (by omega), sp_same, up_ne (by omega)]; exact e19, by rw [sp_same, up_ne (by omega), sp_same, up_ne (by omega)]; exact e20, by rw [sp_same, up_ne (by omega), sp_same, up_same], by rw [sp_same, up_same]⟩
  | succ d ih =>
    intro q f τ h1 h2 hs hf e19 e20 hl
    obtain ⟨f, rfl⟩ : ∃ g, f = g + 1 := ⟨f - 1, by omega⟩
    have hT := rdOK_f h0 hf
    have hq : q < len := by omega
    obtain ⟨t1, t2⟩ := hT.2.2.1 q hq
    rw [r95_s]; unfold fX11_reads_95B
    rw [e19, raw_M hT (by omega), if_pos hq, p_cq, lett_M _ t2, runE_at _ hq]
    cases c : lettB (T q) with
    | true =>
      rw [if_neg (show ¬ bI true = 0 by decide), p_nmS, if_pos rfl, show nI q + 1 = nI (q + 1) from (nI_succ _).symm]
      obtain ⟨τ', a1, a2, a3, a4, a5, a6⟩ := ih (q + 1) f (st_put τ 0 19 (nI (q + 1))) (by omega) (by omega) (by omega) (frR_t hf (frR_p (by omega))) (by rw [sp_same, up_same]) (by rw [sp_same, up_ne (by omega)]; exact e20) (fun j j1 j2 => by
        by_cases z : j = q
        · rw [z]; exact c
        · exact hl j j1 (by omega))
      refine ⟨τ', a1, a2, a3, a4, a5, ?_⟩
      rw [a6, sp_same, up_ne (by omega)]
    | false =>
      rw [if_pos (show bI false = 0 from rfl), e20, wordAt_M hT.2.2.2 (by have := hT.1; omega) hs (fun j hj => (hT.2.2.1 j (by omega)).1) (fun j q1 q2 => ⟨(hT.2.2.1 j (by omega)).2, lett32 (hl j q1 q2)⟩), p_cq, p_nmS, if_neg (show ¬ false = true by decide)]
      rw [show st_put τ 0 22 (fmW T s q WM 0) 0 22 = fmW T s q WM 0 by rw [sp_same, up_same]]
      by_cases c : fmW T s q WM 0 = -1
      · rw [if_pos c, if_pos c]
        exact ⟨_, rfl, frR_t hf (frR_p (by omega)), by rw [sp_same, up_ne (by omega)]; exact e19, by rw [sp_same, up_ne (by omega)]; exact e20, by rw [sp_same, up_same], by rw [sp_same, up_ne (by omega)]⟩
      · rw [if_neg c, if_neg c, p_nmS]
        exact ⟨_, rfl, frR_t (frR_t hf (frR_p (by omega))) (frR_p (by omega)), by rw [sp_same, up_ne (by omega), sp_same, up_ne (by omega)]; exact e19, by rw [sp_same, up_ne (by omega), sp_same, up_ne (by omega)]; exact e20, by rw [sp_same, up_ne (by omega), sp_same, up_same], by rw [sp_same, up_same]⟩
theorem reads_n {τ0 : St} {T : Nat → Nat} {len s : Nat} (h0 : rdOK τ0 T len) : ∀ (d q f : Nat) (τ : St), q + d = len → d < f → s ≤ q → frR τ0 τ → τ 0 19 = nI q → τ 0 20 = nI s → (∀ j, s ≤ j → j < q → digB (T j) = true) → (q - s ≤ 4 → τ 0 22 = nI (numV T 0 s (q - s))) → ∃ τ', fX11_reads_171 f τ = some τ' ∧ frR τ0 τ' ∧ τ' 0 19 = nI (runE (fun j => digB (T j)) q (len - q)) ∧ τ' 0 20 = nI s ∧ (runE (fun j => digB (T j)) q (len - q) - s ≤ 4 → τ' 0 21 = 3 ∧ τ' 0 22 = nI (numV T 0 s (runE (fun j => digB (T j)) q (len - q) - s))) ∧ (¬ runE (fun j => digB (T j)) q (len - q) - s ≤ 4 → τ' 0 21 = τ 0 21) := by
  have fin : ∀ (q : Nat) (τ : St), s ≤ q → q ≤ len → frR τ0 τ → τ 0 19 = nI q → τ 0 20 = nI s → (q - s ≤ 4 → τ 0 22 = nI (numV T 0 s (q - s))) → ∃ τ', (if 5 ≤ τ 0 19 - τ 0 20 then some τ else nmS (st_put τ 0 21 3) fun σ5 => some σ5) = some τ' ∧ frR τ0 τ' ∧ τ' 0 19 = nI q ∧ τ' 0 20 = nI s ∧ (q - s ≤ 4 → τ' 0 21 = 3 ∧ τ' 0 22 = nI (numV T 0 s (q - s))) ∧ (¬ q - s ≤ 4 → τ' 0 21 = τ 0 21) := by
    intro q τ hs hq hf e19 e20 hv
    have := h0.1
    rw [e19, e20, pk_sub hs]
    by_cases c : q - s ≤ 4
    · rw [if_neg (show ¬ (5 : Int32) ≤ nI (q - s) from fun z => absurd ((nI_leI (a := 5) (by omega) (by omega)).mp z) (by omega)), p_nmS]
      exact ⟨_, rfl, frR_t hf (frR_p (by omega)), by rw [sp_same, up_ne (by omega)]; exact e19, by rw [sp_same, up_ne (by omega)]; exact e20, fun _ => ⟨by rw [sp_same, up_same], by rw [sp_same, up_ne (by omega)]; exact hv c⟩, fun z => absurd c z⟩
    · rw [if_pos (show (5 : Int32) ≤ nI (q - s) from nI_le (a := 5) (by omega) (by omega))]
      exact ⟨τ, rfl, hf, e19, e20, fun z => absurd z c, fun _ => rfl⟩
  intro d
  induction d with
  | zero =>
    intro q f τ h1 h2 hs hf e19 e20 hl hv
    obtain ⟨f, rfl⟩ : ∃ g, f = g + 1 := ⟨f - 1, by omega⟩
    have hT := rdOK_f h0 hf
    have : q = len := by omega
    subst this
    rw [r171_s]; unfold fX11_reads_171B
    rw [show τ 0 19 = nI q from e19, raw_M hT (Nat.le_refl _), if_neg (by omega), p_cq, if_pos (show fX11_isDigit (-1) = 0 by decide), Nat.sub_self, ← e19]
    exact fin q τ hs (Nat.le_refl _) hf e19 e20 hv
  | succ d ih =>
    intro q f τ h1 h2 hs hf e19 e20 hl hv
    obtain ⟨f, rfl⟩ : ∃ g, f = g + 1 := ⟨f - 1, by omega⟩
    have hT := rdOK_f h0 hf
    have hq : q < len := by omega
    obtain ⟨t1, t2⟩ := hT.2.2.1 q hq
    rw [r171_s]; unfold fX11_reads_171B
    rw [show fX11_raw τ (τ 0 19) = some (nI (T q)) by rw [e19, raw_M hT (by omega), if_pos hq], p_cq, dig_M _ t2, runE_at _ hq]
    cases c : digB (T q) with
    | true =>
      have dg := c
      unfold digB at dg
      simp only [Bool.and_eq_true, decide_eq_true_eq] at dg
      rw [if_neg (show ¬ bI true = 0 by decide), if_pos rfl]
      have step : ∀ v : Int32, (q + 1 - s ≤ 4 → v = nI (numV T 0 s (q + 1 - s))) → ∃ τ', fX11_reads_223 (fX11_reads_171 f) τ v = some τ' ∧ frR τ0 τ' ∧ τ' 0 19 = nI (runE (fun j => digB (T j)) (q + 1) (len - (q + 1))) ∧ τ' 0 20 = nI s ∧ (runE (fun j => digB (T j)) (q + 1) (len - (q + 1)) - s ≤ 4 → τ' 0 21 = 3 ∧ τ' 0 22 = nI (numV T 0 s (runE (fun j => digB (T j)) (q + 1) (len - (q + 1)) - s))) ∧ (¬ runE (fun j => digB (T j)) (q + 1) (len - (q + 1)) - s ≤ 4 → τ' 0 21 = τ 0 21) := by
        intro v hv'
        unfold fX11_reads_223
        rw [p_nmS, p_nmS, show st_put τ 0 22 v 0 19 + 1 = nI (q + 1) by rw [sp_same, up_ne (by omega), e19]; exact (nI_succ _).symm]
        obtain ⟨τ', a1, a2, a3, a4, a5, a6⟩ := ih (q + 1) f (st_put (st_put τ 0 22 v) 0 19 (nI (q + 1))) (by omega) (by omega) (by omega) (frR_t (frR_t hf (frR_p (by omega))) (frR_p (by omega))) (by rw [sp_same, up_same]) (by rw [sp_same, up_ne (by omega), sp_same, up_ne (by omega)]; exact e20) (fun j j1 j2 => by
          by_cases z : j = q
          · rw [z]; exact c
          · exact hl j j1 (by omega)) (fun h => by rw [sp_same, up_ne (by omega), sp_same, up_same]; exact hv' h)
        exact ⟨τ', a1, a2, a3, a4, a5, fun z => by rw [a6 z, sp_same, up_ne (by omega), sp_same, up_ne (by omega)]⟩
      have sn : numV T 0 s (q + 1 - s) = 10 * numV T 0 s (q - s) + (T q - 48) := by
        rw [show q + 1 - s = (q - s) + 1 by omega, numV_snoc, show s + (q - s) = q by omega]
      by_cases w : 10000 ≤ τ 0 22
      · rw [if_pos w]
        refine step _ (fun h => ?_)
        have hb : numV T 0 s (q - s) < (0 + 1) * 10 ^ (q - s) := numV_lt (q - s) 0 s (fun j j1 j2 => hl j j1 (by omega))
        have p4 : 10 ^ (q - s) ≤ 10 ^ 3 := Nat.pow_le_pow_right (by omega) (by omega)
        rw [hv (by omega)] at w
        have := (nI_leI (a := 10000) (by omega) (by omega)).mp w
        omega
      · rw [if_neg w, p_cq]
        refine step _ (fun h => ?_)
        rw [hv (by omega), show (10 : Int32) = nI 10 from rfl, pk_mul, nI_add, show (48 : Int32) = nI 48 from rfl, pk_sub (by omega), sn]
        congr 1; omega
    | false =>
      rw [if_pos (show bI false = 0 from rfl), if_neg (show ¬ false = true by decide)]
      exact fin q τ hs (by omega) hf e19 e20 hv
theorem reads_M {τ0 : St} {T : Nat → Nat} {len : Nat} (laws : Bool) (h0 : rdOK τ0 T len) : ∀ (d p f : Nat) (τ : St), p + d = len → d < f → frR τ0 τ → τ 0 19 = nI p → ∃ τ', fX11_reads_0 f τ = some τ' ∧ frR τ0 τ' ∧ τ' 0 19 = nI (nxT laws T len p).2.2 ∧ τ' 0 20 = nI (nxT laws T len p).2.1 ∧ tokOK laws (nxT laws T len p).1 (τ' 0 21) (τ' 0 22) := by
  intro d
  induction d with
  | zero =>
    intro p f τ h1 h2 hf e19
    obtain ⟨f, rfl⟩ : ∃ g, f = g + 1 := ⟨f - 1, by omega⟩
    have hT := rdOK_f h0 hf
    have : p = len := by omega
    subst this
    have hn : nxT laws T p p = (0, p, p) := by unfold nxT; rw [skp_len, if_neg (by omega)]
    have hA : rdOK (st_put (st_put τ 0 20 (nI p)) 0 21 1) T p := rdOK_f hT (frR_t (frR_p (by omega)) (frR_p (by omega)))
    have rA := raw_M hA (Nat.le_refl p)
    rw [r0_s]; unfold fX11_reads_0B
    rw [e19, raw_M hT (Nat.le_refl _), p_cq, p_cq, if_neg (show ¬ p < p by omega), if_neg (show ¬ (-1 : Int32) = 32 by decide), if_neg (show ¬ (-1 : Int32) = 10 by decide), p_nmS, p_nmS, show st_put (st_put τ 0 20 (nI p)) 0 21 1 0 19 = nI p by rw [sp_same, up_ne (by omega), sp_same, up_ne (by omega)]; exact e19, rA, p_cq, if_neg (show ¬ p < p by omega), if_pos rfl, p_nmS, hn]
    refine ⟨_, rfl, frR_t (frR_t (frR_t hf (frR_p (by omega))) (frR_p (by omega))) (frR_p (by omega)), ?_, ?_, Or.inl ⟨rfl, ?_⟩⟩
    · rw [sp_same, up_ne (by omega), sp_same, up_ne (by omega), sp_same, up_ne (by omega)]; exact e19
    · rw [sp_same, up_ne (by omega), sp_same, up_ne (by omega), sp_same, up_same]
    · rw [sp_same, up_same]
  | succ d ih =>
    intro p f τ h1 h2 hf e19
    obtain ⟨f, rfl⟩ : ∃ g, f = g + 1 := ⟨f - 1, by omega⟩
    have hT := rdOK_f h0 hf
    have hp : p < len := by omega
    have hlen := hT.1
    obtain ⟨t1, t2⟩ := hT.2.2.1 p hp
    rw [r0_s]; unfold fX11_reads_0B
    rw [e19, raw_M hT (by omega), p_cq, p_cq, if_pos hp]
    have blank : blaB (T p) = true → ∃ τ', fX11_reads_26 (fX11_reads_0 f) τ = some τ' ∧ frR τ0 τ' ∧ τ' 0 19 = nI (nxT laws T len p).2.2 ∧ τ' 0 20 = nI (nxT laws T len p).2.1 ∧ tokOK laws (nxT laws T len p).1 (τ' 0 21) (τ' 0 22) := by
      intro hb
      unfold fX11_reads_26
      rw [p_nmS, e19, show nI p + 1 = nI (p + 1) from (nI_succ _).symm]
      have hn : nxT laws T len p = nxT laws T len (p + 1) := by unfold nxT; rw [skp_yes hp hb]
      rw [hn]
      exact ih (p + 1) f _ (by omega) (by omega) (frR_t hf (frR_p (by omega))) (by rw [sp_same, up_same])
    by_cases b1 : T p = 32
    · rw [if_pos (show nI (T p) = 32 by rw [b1]; rfl)]
      exact blank (by rw [b1]; rfl)
    rw [if_neg (show ¬ nI (T p) = 32 from fun q => b1 ((nI_eq (b := 32) (by omega) (by omega)).mp q))]
    by_cases b2 : T p = 10
    · rw [if_pos (show nI (T p) = 10 by rw [b2]; rfl)]
      exact blank (by rw [b2]; rfl)
    rw [if_neg (show ¬ nI (T p) = 10 from fun q => b2 ((nI_eq (b := 10) (by omega) (by omega)).mp q))]
    have nb : blaB (T p) = false := by unfold blaB; simp [b1, b2]
    have sp : skp T len p = p := skp_no hp nb
    have hn : nxT laws T len p = (tkK laws T p (tkE T len p), p, tkE T len p) := by unfold nxT; rw [sp, if_pos hp]
    have hA : rdOK (st_put (st_put τ 0 20 (nI p)) 0 21 1) T len := rdOK_f hT (frR_t (frR_p (by omega)) (frR_p (by omega)))
    have rA := raw_M hA (Nat.le_of_lt hp)
    have e19A : st_put (st_put τ 0 20 (nI p)) 0 21 1 0 19 = nI p := by rw [sp_same, up_ne (by omega), sp_same, up_ne (by omega)]; exact e19
    rw [p_nmS, p_nmS, e19A, rA, p_cq, if_pos hp, if_neg (nI_m1 (by omega)), p_nmS, p_nmS, hn, show nI p + 1 = nI (p + 1) from (nI_succ _).symm]
    generalize hB : st_put (st_put (st_put (st_put τ 0 20 (nI p)) 0 21 1) 0 19 (nI (p + 1))) 0 22 (nI (T p)) = B
    have fB : frR τ0 B := by rw [← hB]; exact frR_t (frR_t (frR_t (frR_t hf (frR_p (by omega))) (frR_p (by omega))) (frR_p (by omega))) (frR_p (by omega))
    have B19 : B 0 19 = nI (p + 1) := by rw [← hB]; simp [st_put, st_row, upd]
    have B20 : B 0 20 = nI p := by rw [← hB]; simp [st_put, st_row, upd]
    have B21 : B 0 21 = 1 := by rw [← hB]; simp [st_put, st_row, upd]
    have B22 : B 0 22 = nI (T p) := by rw [← hB]; simp [st_put, st_row, upd]
    rw [lett_M _ t2, dig_M _ t2, sig_M _ t2]
    cases cl : lettB (T p) with
    | true =>
      rw [if_neg (show ¬ bI true = 0 by decide)]
      have ee : tkE T len p = runE (fun j => lettB (T j)) (p + 1) (len - (p + 1)) := by unfold tkE; rw [cl, if_pos rfl, runE_at _ hp, cl, if_pos rfl]
      have kk : tkK laws T p (tkE T len p) = fkW T p (tkE T len p) (WLx laws) 0 := by unfold tkK; rw [cl]; rfl
      obtain ⟨τ', a1, a2, a3, a4, a5, a6⟩ := reads_w (s := p) h0 (len - (p + 1)) (p + 1) FU B (by omega) (by rw [FU_eq]; omega) (by omega) fB B19 B20 (fun j j1 j2 => by rw [show j = p by omega]; exact cl)
      rw [← ee] at a3 a5 a6
      refine ⟨τ', a1, a2, a3, a4, ?_⟩
      show tokOK laws (tkK laws T p (tkE T len p)) (τ' 0 21) (τ' 0 22)
      rw [kk]
      rcases word_tok laws T p (tkE T len p) with ⟨i, w1, w2, w3⟩ | ⟨w1, w2⟩
      · have mwl : mwN laws i < 27 := (mw_e laws w1).2
        refine Or.inr (Or.inr (Or.inr (Or.inl ⟨i, w1, w2, ?_, by rw [a5, w3]⟩)))
        rw [a6, w3, if_neg (nI_m1 (by omega))]
      · refine Or.inr (Or.inl ⟨w1, ?_⟩)
        rcases w2 with w2 | ⟨j, j1, j2, j3⟩
        · refine Or.inl ?_
          rw [a6, if_pos w2]; exact B21
        · refine Or.inr ⟨?_, j, j1, j2, by rw [a5, j3]⟩
          rw [a6, j3, if_neg (nI_m1 (by omega))]
    | false =>
      rw [if_pos (show bI false = 0 from rfl)]
      cases cd : digB (T p) with
      | true =>
        rw [if_neg (show ¬ bI true = 0 by decide), p_nmS]
        have ee : tkE T len p = runE (fun j => digB (T j)) (p + 1) (len - (p + 1)) := by unfold tkE; rw [cl, cd, if_neg (by decide), if_pos rfl, runE_at _ hp, cd, if_pos rfl]
        have kk : tkK laws T p (tkE T len p) = if tkE T len p - p ≤ 4 then 1000 + numV T 0 p (tkE T len p - p) else 1 := by unfold tkK; rw [cl, cd]; rfl
        have dg := cd
        unfold digB at dg
        simp only [Bool.and_eq_true, decide_eq_true_eq] at dg
        obtain ⟨τ', a1, a2, a3, a4, a5, a6⟩ := reads_n (s := p) h0 (len - (p + 1)) (p + 1) FU (st_put B 0 22 (nI (T p) - 48)) (by omega) (by rw [FU_eq]; omega) (by omega) (frR_t fB (frR_p (by omega))) (by rw [sp_same, up_ne (by omega)]; exact B19) (by rw [sp_same, up_ne (by omega)]; exact B20) (fun j j1 j2 => by rw [show j = p by omega]; exact cd) (fun _ => by
          rw [sp_same, up_same, show (48 : Int32) = nI 48 from rfl, pk_sub (by omega), show p + 1 - p = 0 + 1 by omega, numV_s]
          congr 1
          simp [numV, numW])
        rw [← ee] at a3 a5 a6
        refine ⟨τ', a1, a2, a3, a4, ?_⟩
        show tokOK laws (tkK laws T p (tkE T len p)) (τ' 0 21) (τ' 0 22)
        rw [kk]
        by_cases q : tkE T len p - p ≤ 4
        · obtain ⟨a7, a8⟩ := a5 q
          rw [if_pos q]
          exact Or.inr (Or.inr (Or.inr (Or.inr ⟨_, num_le hp cl cd q, rfl, a7, a8⟩)))
        · rw [if_neg q]
          refine Or.inr (Or.inl ⟨rfl, Or.inl ?_⟩)
          rw [a6 q, sp_same, up_ne (by omega)]; exact B21
      | false =>
        have ee : tkE T len p = p + 1 := by unfold tkE; rw [cl, cd]; rfl
        have kk : tkK laws T p (tkE T len p) = if sigB (T p) then T p else 1 := by unfold tkK; rw [cl, cd]; rfl
        rw [if_pos (show bI false = 0 from rfl)]
        cases cs : sigB (T p) with
        | true =>
          rw [cs, if_pos rfl] at kk
          rw [if_neg (show ¬ bI true = 0 by decide), p_nmS]
          refine ⟨_, rfl, frR_t fB (frR_p (by omega)), by rw [sp_same, up_ne (by omega), ee]; exact B19, by rw [sp_same, up_ne (by omega)]; exact B20, ?_⟩
          show tokOK laws (tkK laws T p (tkE T len p)) _ _
          rw [kk]
          exact Or.inr (Or.inr (Or.inl ⟨cs, by rw [sp_same, up_same], by rw [sp_same, up_ne (by omega)]; exact B22⟩))
        | false =>
          rw [cs, if_neg (by decide)] at kk
          rw [if_pos (show bI false = 0 from rfl)]
          refine ⟨_, rfl, fB, by rw [ee]; exact B19, B20, ?_⟩
          show tokOK laws (tkK laws T p (tkE T len p)) _ _
          rw [kk]
          exact Or.inr (Or.inl ⟨rfl, Or.inl B21⟩)
