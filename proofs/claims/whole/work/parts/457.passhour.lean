/-! the whole hour of a ship -/
def dI (up : Bool) : Int32 := if up then 1 else -1
def sI (up : Bool) : Int32 := if up then 5 else 0
def cF (up : Bool) (i : Nat) : Nat := if up then 5 - i else i
def cT (up : Bool) (i : Nat) : Nat := if up then 6 - i else i - 1
theorem fromI (up : Bool) {h i : Nat} (hi : 1 ≤ i ∧ i ≤ 5) : nI h * 6 + sI up - nI i * dI up = nI (6 * h + cF up i) ∧ nI h * 6 + sI up - nI i * dI up + dI up = nI (6 * h + cT up i) := by
  have e : nI h * 6 = nI (6 * h) := by rw [show (6 : Int32) = nI 6 from rfl, pk_mul, Nat.mul_comm]
  cases up with
  | true =>
    have a : nI h * 6 + sI true - nI i * dI true = nI (6 * h + (5 - i)) := by
      rw [e, show sI true = nI 5 from rfl, show dI true = 1 from rfl, show nI i * (1 : Int32) = nI i by grind, nI_add, pk_sub (by omega)]
      congr 1; omega
    rw [a]
    refine ⟨rfl, ?_⟩
    rw [show dI true = 1 from rfl, show nI (6 * h + (5 - i)) + 1 = nI (6 * h + (5 - i) + 1) from (nI_succ _).symm]
    show nI _ = nI (6 * h + (6 - i))
    congr 1; omega
  | false =>
    have a : nI h * 6 + sI false - nI i * dI false = nI (6 * h + i) := by
      rw [e, show sI false = 0 from rfl, show dI false = -1 from rfl, show nI (6 * h) + 0 - nI i * (-1 : Int32) = nI (6 * h) + nI i by grind, nI_add]
    rw [a]
    refine ⟨rfl, ?_⟩
    rw [show dI false = -1 from rfl, show nI (6 * h + i) + (-1) = nI (6 * h + i) - 1 by grind]
    show _ = nI (6 * h + (i - 1))
    have := nI_pred (6 * h + (i - 1))
    rwa [show 6 * h + (i - 1) + 1 = 6 * h + i by omega] at this
theorem f44_s (b : Nat) (r : St → Int32 → Int32 → Int32 → Option St) (f : Nat) (σ : St) (a c d e : Int32) : fX5_flow_44 b r (f + 1) σ a c d e = fX5_flow_44B b r (fX5_flow_44 b r f) σ a c d e := rfl
theorem f36_s (b : Nat) (f : Nat) (σ : St) (a c d : Int32) : fX5_flow_36 b (f + 1) σ a c d = fX5_flow_36B b (fX5_flow_36 b f) σ a c d := rfl
theorem m184_s (r : St → Int32 → Int32 → Int32 → Int32 → Option St) (f : Nat) (τ : St) (a b c d e : Int32) : fX11_shipHour_184 r (f + 1) τ a b c d e = fX11_shipHour_184B r (fX11_shipHour_184 r f) τ a b c d e := rfl
theorem m170_s (f : Nat) (τ : St) (a b c d : Int32) : fX11_shipHour_170 (f + 1) τ a b c d = fX11_shipHour_170B (fX11_shipHour_170 f) τ a b c d := rfl
def flInv (w b x : Nat) (σ τ : St) : Prop := r_stk (σ (b + 2)) ∧ (if 0 ≤ σ b 5 then σ b 5 else 0 - σ b 5) = nI x ∧ ∃ O W K Q, r_hold O W K Q ∧ r_hW w b σ τ O W K Q
def flFr (w b : Nat) (σ σ' τ τ' : St) : Prop := (∀ a, ¬ (b + 3 ≤ a ∧ a ≤ b + 6) → σ' a = σ a) ∧ frW w τ τ' ∧ (∀ a, ¬ (5 ≤ a ∧ a ≤ 8) → τ' a = τ a)
theorem flFr_r (w b : Nat) (σ τ : St) : flFr w b σ σ τ τ := ⟨fun _ _ => rfl, frW_r _ _, fun _ _ => rfl⟩
theorem flFr_t {w b : Nat} {σ σ' σ'' τ τ' τ'' : St} (h : flFr w b σ σ' τ τ') (h' : flFr w b σ' σ'' τ' τ'') : flFr w b σ σ'' τ τ'' := ⟨fun a ha => by rw [h'.1 a ha, h.1 a ha], frW_t h.2.1 h'.2.1, fun a ha => by rw [h'.2.2 a ha, h.2.2 a ha]⟩
theorem flow_in {w b x h : Nat} {up : Bool} {rec36 : St → Int32 → Int32 → Int32 → Option St} {rec170 : St → Int32 → Int32 → Int32 → Int32 → Option St} (hwb : (w = 0 ∧ b = 10) ∨ (w = 1 ∧ b = 17)) (hx : x ≤ 60) (hh : h < 4) : ∀ (d i f f' : Nat) (σ τ : St), i + d = 6 → 1 ≤ i → d < f → d < f' → flInv w b x σ τ → ∃ σ' τ', fX5_flow_44 b rec36 f σ (dI up) (sI up) (nI h) (nI i) = rec36 σ' (dI up) (sI up) (nI (h + 1)) ∧ fX11_shipHour_184 rec170 f' τ (nI w) (nI x) (dI up) (nI h) (nI i) = rec170 τ' (nI w) (nI x) (dI up) (nI (h + 1)) ∧ flInv w b x σ' τ' ∧ flFr w b σ σ' τ τ' := by
  intro d
  induction d with
  | zero =>
    intro i f f' σ τ h1 h2 h3 h4 hi
    obtain ⟨f, rfl⟩ : ∃ g, f = g + 1 := ⟨f - 1, by omega⟩
    obtain ⟨f', rfl⟩ : ∃ g, f' = g + 1 := ⟨f' - 1, by omega⟩
    have : i = 6 := by omega
    subst this
    rw [f44_s, m184_s]; unfold fX5_flow_44B fX11_shipHour_184B
    rw [if_pos (show (6 : Int32) ≤ nI 6 by decide), if_pos (show (6 : Int32) ≤ nI 6 by decide), show nI h + 1 = nI (h + 1) from (nI_succ _).symm]
    exact ⟨σ, τ, rfl, rfl, hi, flFr_r _ _ _ _⟩
  | succ d ih =>
    intro i f f' σ τ h1 h2 h3 h4 hi
    obtain ⟨f, rfl⟩ : ∃ g, f = g + 1 := ⟨f - 1, by omega⟩
    obtain ⟨f', rfl⟩ : ∃ g, f' = g + 1 := ⟨f' - 1, by omega⟩
    rw [f44_s, m184_s]; unfold fX5_flow_44B fX11_shipHour_184B
    have n6 : ¬ (6 : Int32) ≤ nI i := fun q => absurd ((nI_leI (a := 6) (by omega) (by omega)).mp q) (by omega)
    obtain ⟨q1, q2⟩ := fromI up (h := h) (i := i) (by omega)
    rw [if_neg n6, if_neg n6, q2, q1, show nI i + 1 = nI (i + 1) from (nI_succ _).symm]
    obtain ⟨hst, hl, O, W, K, Q, hr, hhw⟩ := hi
    have cf : 6 * h + cF up i < 24 := by unfold cF; split <;> omega
    have ct : 6 * h + cT up i < 24 := by unfold cT; split <;> omega
    have ne : ¬ 6 * h + cF up i = 6 * h + cT up i := by unfold cF cT; split <;> omega
    have e2 : nI (144 * w + 6 * (6 * h + cF up i)) + 6 * dI up = nI (144 * w + 6 * (6 * h + cT up i)) := by
      cases up with
      | true =>
        rw [show (6 : Int32) * dI true = nI 6 from rfl, nI_add]
        show nI (144 * w + 6 * (6 * h + (5 - i)) + 6) = nI (144 * w + 6 * (6 * h + (6 - i)))
        congr 1; omega
      | false =>
        rw [show (6 : Int32) * dI false = - nI 6 from rfl, show nI (144 * w + 6 * (6 * h + cF false i)) + -nI 6 = nI (144 * w + 6 * (6 * h + cF false i)) - nI 6 by grind]
        show nI (144 * w + 6 * (6 * h + i)) - nI 6 = nI (144 * w + 6 * (6 * h + (i - 1)))
        rw [pk_sub (by omega)]; congr 1; omega
    have e1 : ∀ c : Int32, c = nI (cF up i) → 144 * nI w + 36 * nI h + 6 * c = nI (144 * w + 6 * (6 * h + cF up i)) := by
      rintro _ rfl
      rw [show (144 : Int32) = nI 144 from rfl, show (36 : Int32) = nI 36 from rfl, show (6 : Int32) = nI 6 from rfl, pk_mul, pk_mul, pk_mul, nI_add, nI_add]
      congr 1; omega
    have fin : ∀ c : Int32, c = nI (cF up i) → ∃ σ' τ', (cv (fX5_flowOver b σ (nI (6 * h + cF up i)) (nI (6 * h + cT up i))) fun σ3 => fX5_flow_44 b rec36 f σ3 (dI up) (sI up) (nI h) (nI (i + 1))) = rec36 σ' (dI up) (sI up) (nI (h + 1)) ∧ fX11_shipHour_209 (fX11_shipHour_184 rec170 f') τ (nI w) (nI x) (dI up) (nI h) (nI i) c (nI h) (nI w) = rec170 τ' (nI w) (nI x) (dI up) (nI (h + 1)) ∧ flInv w b x σ' τ' ∧ flFr w b σ σ' τ τ' := by
      intro c hc
      obtain ⟨σ1, τ1, O', W', K', Q', a1, a2, a3, a4, a5, a6, a7⟩ := flow1 (x := x) (a0 := nI w) (a1 := nI h) (a2 := c) (a3 := dI up) hwb hst hr hhw cf ct ne hx hl (e1 c hc) e2
      unfold fX11_shipHour_209
      rw [a1, p_cv, a2, p_cv, show nI i + 1 = nI (i + 1) from (nI_succ _).symm]
      obtain ⟨σ2, τ2, b1, b2, b3, b4⟩ := ih (i + 1) f f' σ1 τ1 (by omega) (by omega) (by omega) (by omega) ⟨by rw [a5 (b + 2) (by omega)]; exact hst, by rw [a5 b (by omega)]; exact hl, O', W', K', Q', a3, a4⟩
      exact ⟨σ2, τ2, b1, b2, b3, flFr_t ⟨a5, a6, a7⟩ b4⟩
    cases up with
    | true =>
      rw [if_neg (show ¬ dI true ≤ 0 by decide)]
      exact fin _ (by rw [show (5 : Int32) = nI 5 from rfl, pk_sub (by omega)]; rfl)
    | false =>
      rw [if_pos (show dI false ≤ 0 by decide)]
      exact fin _ rfl
theorem flow_out {w b x : Nat} {up : Bool} (hwb : (w = 0 ∧ b = 10) ∨ (w = 1 ∧ b = 17)) (hx : x ≤ 60) : ∀ (d h f f' : Nat) (σ τ : St), h + d = 4 → d < f → d < f' → flInv w b x σ τ → ∃ σ' τ', fX5_flow_36 b f σ (dI up) (sI up) (nI h) = some σ' ∧ fX11_shipHour_170 f' τ (nI w) (nI x) (dI up) (nI h) = some τ' ∧ flInv w b x σ' τ' ∧ flFr w b σ σ' τ τ' := by
  intro d
  induction d with
  | zero =>
    intro h f f' σ τ h1 h3 h4 hi
    obtain ⟨f, rfl⟩ : ∃ g, f = g + 1 := ⟨f - 1, by omega⟩
    obtain ⟨f', rfl⟩ : ∃ g, f' = g + 1 := ⟨f' - 1, by omega⟩
    have : h = 4 := by omega
    subst this
    rw [f36_s, m170_s]; unfold fX5_flow_36B fX11_shipHour_170B
    rw [if_pos (show (4 : Int32) ≤ nI 4 by decide), if_pos (show (4 : Int32) ≤ nI 4 by decide)]
    exact ⟨σ, τ, rfl, rfl, hi, flFr_r _ _ _ _⟩
  | succ d ih =>
    intro h f f' σ τ h1 h3 h4 hi
    obtain ⟨f, rfl⟩ : ∃ g, f = g + 1 := ⟨f - 1, by omega⟩
    obtain ⟨f', rfl⟩ : ∃ g, f' = g + 1 := ⟨f' - 1, by omega⟩
    have n4 : ¬ (4 : Int32) ≤ nI h := fun q => absurd ((nI_leI (a := 4) (by omega) (by omega)).mp q) (by omega)
    rw [f36_s, m170_s]; unfold fX5_flow_36B fX11_shipHour_170B
    rw [if_neg n4, if_neg n4, if_neg (show ¬ dI up = 0 by cases up <;> decide)]
    obtain ⟨σ1, τ1, a1, a2, a3, a4⟩ := flow_in (up := up) (rec36 := fX5_flow_36 b f) (rec170 := fX11_shipHour_170 f') hwb hx (h := h) (by omega) 5 1 FU FU σ τ (by omega) (by omega) (by rw [FU_eq]; omega) (by rw [FU_eq]; omega) hi
    obtain ⟨σ2, τ2, b1, b2, b3, b4⟩ := ih (h + 1) f f' σ1 τ1 (by omega) (by omega) (by omega) a3
    refine ⟨σ2, τ2, ?_, ?_, b3, flFr_t a4 b4⟩
    · rw [show (1 : Int32) = nI 1 from rfl, a1, b1]
    · rw [show (1 : Int32) = nI 1 from rfl, a2, b2]
def shR (w b : Nat) (σ τ : St) : Prop := r_stk (σ (b + 2)) ∧ (∃ O W K Q, r_hold O W K Q ∧ r_hW w b σ τ O W K Q) ∧ σ (b + 2) 7 = τ 9 w ∧ σ b 4 = τ 10 w ∧ σ b 5 = τ 11 w ∧ r_gone (σ b 6) (τ 12 w)
theorem ship_hour {y w b so rn sl t : Nat} {P : Pg} {σ τ : St} (hwb : (w = 0 ∧ b = 10) ∨ (w = 1 ∧ b = 17)) (ht : t < 720) (hsl : sl ≤ 9) (hs : shR w b σ τ) (hl : lawsC σ y P) (hT : timeC σ so rn (t % 24)) (sea : ¬ σ b 3 = 0) (lim : σ b 2 = τ 0 45) (arms : r_arms (σ (b + 1)) (τ 27)) (eso : τ 0 2 = nI so) (ern : τ 1 (t / 24) = nI rn) (esl : τ 2 (t / 24) = nI sl) (hm : lawsM τ P) : ∃ σ' τ', fX5_passHour b σ (nI sl) (nI t) = some σ' ∧ fX11_shipHour τ (nI w) (nI t) = some τ' ∧ shR w b σ' τ' ∧ frC y b σ σ' ∧ frW w τ τ' ∧ timeC σ' so rn (t % 24) := by
  have hw : w < 2 := by omega
  have hb : b ≤ 17 := by omega
  have sb : stN (b + 2) = 144 := by rcases hwb with ⟨_, rfl⟩ | ⟨_, rfl⟩ <;> rfl
  have y44 := fW_ge hl.1
  have hs0 := hs
  obtain ⟨hst, ⟨O, W, K, Q, hr, hh⟩, hwl, hst4, hln, hgn, hgg⟩ := hs
  unfold fX5_passHour fX11_shipHour
  rw [if_neg sea, p_rdN hw (by omega), ← hgn]
  by_cases cg : ¬ σ b 6 = -1
  · rw [if_neg cg, if_neg cg]
    exact ⟨σ, τ, rfl, rfl, hs0, frC_r _ _ _, frW_r _ _, hT⟩
  have cg := Decidable.not_not.mp cg
  rw [if_pos cg, if_pos cg]
  -- shaken
  obtain ⟨σ1, τ1, a1, a2, a3, a4, a5, a6, a7⟩ := shake_both (y := y) (w := w) (b := b) (sl := sl) (t := t) (σ0 := σ) (τ0 := τ) hw sb hr hsl ht esl 144 0 FU σ τ K (by omega) (by rw [FU_eq]; omega) (frC_r _ _ _) (frW_r _ _) hh (fun i hi => by rw [if_neg (by omega)]) (fun _ _ => rfl) (fun _ _ => rfl)
  rw [show fX8_shake (b + 2) σ (nI sl) = some σ1 from a1, p_cv, show fX11_shakes τ (nI w) (nI t) = some τ1 by unfold fX11_shakes; rw [w144z]; exact a2, p_cv]
  -- water and soup
  obtain ⟨σ2, σ3, τ3, W2, Q2, b1, b2, b3, b4, b5, b6, b7, b8, b9, b10, b11, b12, b13⟩ := water_both (y := y) (so := so) (rn := rn) (P := P) (t := t) hwb ht (sk_hold sl hr) (r_stk_C hst a3) (lawsC_C hb hl a3) (by unfold timeC; rw [a6 29 (by omega)]; exact hT) (by rw [a7 0 (by omega)]; exact eso) (by rw [a7 1 (by omega)]; exact ern) (lawsM_W hm a4) a5 (by rw [a6 (b + 2) (by omega), a7 9 (by omega)]; exact hwl)
  rw [b1, p_cv, b2, p_cv, b3, p_cv]
  have f3 : frC y b σ σ3 := frC_t a3 b8
  have g3 : frW w τ τ3 := frW_t a4 b9
  have hst3 := r_stk_C hst f3
  have o3 : σ3 b = σ b := by rw [b10, a6 b (by omega)]
  have t10 : τ3 10 = τ 10 := by rw [b11, a7 10 (by omega)]
  have t11 : τ3 11 = τ 11 := by rw [b12, a7 11 (by omega)]
  have t12 : τ3 12 = τ 12 := by rw [b13, a7 12 (by omega)]
  have ar3 : r_arms (σ3 (b + 1)) (τ3 27) := by
    rw [f3.1 (b + 1) (by omega) (by omega) (by omega) (by omega) (by omega), g3.1 27 (by omega) (by omega) (by omega) (by omega)]; exact arms
  obtain ⟨m, wt, m1, m2, m3⟩ := lean_both hw sb b4 b5 ar3
  rw [m1, p_cq, m2, p_cq]
  rcases m3 with ⟨k, hk, c1, c2, c3⟩ | ⟨c1, c2, c3⟩
  · rw [c1, c2, p_cq, p_cq, if_neg (nI_m1 (by omega)), p_nmS, p_rdN hw (by omega), p_wrN hw (by omega)]
    have e5 : st_put σ3 b 5 (sgI m k) b 5 = sgI m k := by rw [sp_same, up_same]
    rw [e5, abs_sg m (by omega), if_neg (show ¬ (60 : Int32) < nI k from fun q => absurd ((nI_ltI (a := 60) (by omega) (by omega)).mp q) (by omega))]
    unfold fX5_roll
    rw [p_nmS, p_cb]
    have e4 : st_put σ3 b 5 (sgI m k) b 4 = τ 10 w := by rw [sp_same, up_ne (by omega), o3, hst4]
    rw [e4, show τ3 10 w = τ 10 w by rw [t10]]
    generalize hA : st_put (st_put σ3 b 5 (sgI m k)) b 4 (1664525 * τ 10 w + 1013904223) = A
    generalize hst' : (1664525 * τ 10 w + 1013904223 : Int32) = S at *
    have sA4 : A b 4 = S := by rw [← hA, sp_same, up_same]
    have sA5 : A b 5 = sgI m k := by rw [← hA, sp_same, up_ne (by omega), sp_same, up_same]
    have sA6 : A b 6 = σ b 6 := by rw [← hA, sp_same, up_ne (by omega), sp_same, up_ne (by omega), o3]
    have sAo : ∀ a, ¬ a = b → A a = σ3 a := fun a ha => by rw [← hA, sp_ne ha, sp_ne ha]
    have fA : frC y b σ A := by rw [← hA]; exact frC_t (frC_t f3 (frC_o (by omega))) (frC_o (by omega))
    have tA : timeC A so rn (t % 24) := by unfold timeC; rw [sAo 29 (by omega)]; exact b7
    have hstA := r_stk_C hst fA
    have lm : (if m ≤ 0 then - nI k else nI k) = sgI m k := by
      unfold sgI
      by_cases z : m = 0
      · rw [c3 z, if_pos (by rw [z]; decide), if_pos (by rw [z]; decide)]; decide
      · by_cases q : m ≤ 0
        · rw [if_pos q, if_neg (show ¬ 0 ≤ m by grind)]
        · rw [if_neg q, if_pos (show 0 ≤ m by grind)]
    -- the model's two roads come to one
    have MM : (if m ≤ 0 then fX11_shipHour_109 (st_put τ3 10 w S) (nI w) (nI t) m (nI k) (-nI k) (nI w) else fX11_shipHour_109 (st_put τ3 10 w S) (nI w) (nI t) m (nI k) (nI k) (nI w)) = fX11_shipHour_109 (st_put τ3 10 w S) (nI w) (nI t) m (nI k) (sgI m k) (nI w) := by
      rw [← lm]
      by_cases q : m ≤ 0
      · rw [if_pos q, if_pos q]
      · rw [if_neg q, if_neg q]
    rw [MM]
    unfold fX11_shipHour_109
    have dv : nI t / 24 = nI (t / 24) := by rw [show (24 : Int32) = nI 24 from rfl, pk_div (by omega) (by omega) (by omega)]
    generalize hB : st_put (st_put τ3 10 w S) 11 w (sgI m k) = B
    have gB : frW w τ B := by rw [← hB]; exact frW_t (frW_t g3 (frW_o (by omega))) (frW_o (by omega))
    have sB : ∀ a, ¬ a = 10 → ¬ a = 11 → B a = τ3 a := fun a h1 h2 => by rw [← hB, sp_ne h2, sp_ne h1]
    have sB10 : B 10 w = S := by rw [← hB, sp_ne (by omega), sp_same, up_same]
    have sB11 : B 11 w = sgI m k := by rw [← hB, sp_same, up_same]
    rw [p_wrN hw (by omega), hB, dv, p_rdN (f := B 2) (by omega) (by omega), p_rdN (f := B 10) hw (by omega), gB.1 2 (by omega) (by omega) (by omega) (by omega), esl, sB10, sA4, fA.2.1 2 (by omega) (by omega) (by omega), lim, gB.1 0 (by omega) (by omega) (by omega) (by omega)]
    have hhAB : r_hW w b A B O W2 (skN sl O K) Q2 := by
      unfold r_hW at *
      rw [sAo _ (by omega), sAo _ (by omega), sAo _ (by omega), sAo _ (by omega), sB 5 (by omega) (by omega), sB 6 (by omega) (by omega), sB 7 (by omega) (by omega), sB 8 (by omega) (by omega)]
      exact b5
    have base : A (b + 2) 7 = B 9 w := by rw [sAo (b + 2) (by omega), sB 9 (by omega) (by omega)]; exact b6
    by_cases cr : nI k + nI sl * (S.toUInt32 >>> ((30 : Int32).toUInt32 &&& Int32.toUInt32 31)).toInt32 ≤ τ 0 45
    · rw [if_pos cr, if_pos cr]
      have inv : flInv w b k A B := ⟨hstA, by rw [sA5]; exact abs_sg m (by omega), O, W2, skN sl O K, Q2, b4, hhAB⟩
      have goneB : r_gone (A b 6) (B 12 w) := by
        rw [sA6, sB 12 (by omega) (by omega), t12]; exact ⟨hgn, hgg⟩
      have done : ∀ σ' τ', flInv w b k σ' τ' → flFr w b A σ' B τ' → shR w b σ' τ' ∧ frC y b σ σ' ∧ frW w τ τ' ∧ timeC σ' so rn (t % 24) := by
        intro σ' τ' i1 i2
        obtain ⟨j1, j2, j3⟩ := i1
        refine ⟨⟨j1, j3, ?_, ?_, ?_, ?_⟩, frC_t fA ⟨fun a h1 h2 h3 h4 h5 => i2.1 a h3, fun j _ _ _ => by rw [i2.1 b (by omega)], fun j _ => by rw [i2.1 (b + 2) (by omega)]⟩, frW_t gB i2.2.1, ?_⟩
        · rw [i2.1 (b + 2) (by omega), i2.2.2 9 (by omega)]; exact base
        · rw [i2.1 b (by omega), i2.2.2 10 (by omega), sA4, sB10]
        · rw [i2.1 b (by omega), i2.2.2 11 (by omega), sA5, sB11]
        · rw [i2.1 b (by omega), i2.2.2 12 (by omega)]; exact goneB
        · unfold timeC; rw [i2.1 29 (by omega)]; exact tA
      unfold fX5_flow
      rw [sA5]
      by_cases k0 : k = 0
      · subst k0
        have s0 : sgI m 0 = 0 := by unfold sgI; split <;> decide
        rw [s0, if_pos rfl, p_cv, if_pos (show nI 0 = 0 from rfl)]
        have : fX11_shipHour_170 FU B (nI w) (nI 0) 0 0 = some B := by
          rw [FU_eq, show (5000 : Nat) = 4999 + 1 from rfl, m170_s]
          unfold fX11_shipHour_170B
          rw [if_neg (show ¬ (4 : Int32) ≤ 0 by decide), if_pos rfl]
        rw [this]
        exact ⟨A, B, rfl, rfl, done A B inv (flFr_r _ _ _ _)⟩
      · have kp : 0 < nI k := (nI_0lt (by omega)).mpr (by omega)
        have kq : nI k < nI 100 := nI_lt (by omega) (by omega)
        rw [show nI 100 = (100 : Int32) from rfl] at kq
        have m0 : ¬ m = 0 := fun z => k0 (c3 z)
        have run : ∀ up : Bool, ∃ σ' τ', fX5_flow_36 b FU A (dI up) (sI up) 0 = some σ' ∧ fX11_shipHour_170 FU B (nI w) (nI k) (dI up) 0 = some τ' ∧ shR w b σ' τ' ∧ frC y b σ σ' ∧ frW w τ τ' ∧ timeC σ' so rn (t % 24) := by
          intro up
          obtain ⟨σ', τ', r1, r2, r3, r4⟩ := flow_out (up := up) hwb hk 4 0 FU FU A B (by omega) (by rw [FU_eq]; omega) (by rw [FU_eq]; omega) inv
          exact ⟨σ', τ', r1, r2, done σ' τ' r3 r4⟩
        rw [if_neg (show ¬ nI k = 0 by grind)]
        unfold fX5_flow_20
        rw [sA5]
        by_cases q : m ≤ 0
        · have sg : sgI m k = - nI k := by unfold sgI; rw [if_neg (show ¬ 0 ≤ m by grind)]
          rw [sg, if_neg (show ¬ -nI k = 0 by grind), if_pos (show -nI k ≤ 0 by grind), if_pos (show -nI k ≤ 0 by grind), if_pos q]
          obtain ⟨σ', τ', r1, r2, r3⟩ := run false
          rw [show fX5_flow_36 b FU A (-1) 0 0 = some σ' from r1, show fX11_shipHour_170 FU B (nI w) (nI k) (-1) 0 = some τ' from r2, p_cv]
          exact ⟨σ', τ', rfl, rfl, r3⟩
        · have sg : sgI m k = nI k := by unfold sgI; rw [if_pos (show 0 ≤ m by grind)]
          rw [sg, if_neg (show ¬ nI k = 0 by grind), if_neg (show ¬ nI k ≤ 0 by grind), if_neg (show ¬ nI k ≤ 0 by grind), if_neg q]
          obtain ⟨σ', τ', r1, r2, r3⟩ := run true
          rw [show fX5_flow_36 b FU A 1 5 0 = some σ' from r1, show fX11_shipHour_170 FU B (nI w) (nI k) 1 0 = some τ' from r2, p_cv]
          exact ⟨σ', τ', rfl, rfl, r3⟩
    · rw [if_neg cr, if_neg cr, p_wrN hw (by omega)]
      unfold fX5_passHour_80
      rw [p_nmS]
      refine ⟨_, _, rfl, rfl, ⟨?_, ⟨O, W2, skN sl O K, Q2, b4, ?_⟩, ?_, ?_, ?_, ?_⟩, frC_t fA (frC_o (by omega)), frW_t gB (frW_o (by omega)), ?_⟩
      · rw [sp_ne (by omega)]; exact hstA
      · unfold r_hW at *
        rw [sp_ne (by omega), sp_ne (by omega), sp_ne (by omega), sp_ne (by omega), sp_ne (by omega), sp_ne (by omega), sp_ne (by omega), sp_ne (by omega)]; exact hhAB
      · rw [sp_ne (by omega), sp_ne (by omega)]; exact base
      · rw [sp_same, up_ne (by omega), sp_ne (by omega), sA4, sB10]
      · rw [sp_same, up_ne (by omega), sp_ne (by omega), sA5, sB11]
      · rw [sp_same, up_same, sp_same, up_same]; exact ⟨rfl, Or.inr ⟨t, by omega, rfl⟩⟩
      · unfold timeC; rw [sp_ne (by omega)]; exact tA
  · rw [c1, c2, p_cq, p_cq, if_pos rfl, p_nmS]
    have e5 : st_put σ3 b 5 (sgI m 61) b 5 = sgI m 61 := by rw [sp_same, up_same]
    rw [e5, abs_sg m (by omega), if_pos (show (60 : Int32) < nI 61 by decide)]
    unfold fX5_passHour_80
    rw [p_nmS]
    have MM : (if m ≤ 0 then fX11_shipHour_63 τ3 (nI w) (nI t) (-61) (nI w) else fX11_shipHour_63 τ3 (nI w) (nI t) 61 (nI w)) = some (st_put (st_put τ3 11 w (sgI m 61)) 12 w (nI t)) := by
      unfold fX11_shipHour_63
      by_cases q : m ≤ 0
      · rw [if_pos q, p_wrN hw (by omega), p_wrN hw (by omega)]
        unfold sgI; rw [if_neg (show ¬ 0 ≤ m by grind)]; rfl
      · rw [if_neg q, p_wrN hw (by omega), p_wrN hw (by omega)]
        unfold sgI; rw [if_pos (show 0 ≤ m by grind)]; rfl
    rw [MM]
    refine ⟨_, _, rfl, rfl, ⟨?_, ⟨O, W2, skN sl O K, Q2, b4, ?_⟩, ?_, ?_, ?_, ?_⟩, frC_t (frC_t f3 (frC_o (by omega))) (frC_o (by omega)), frW_t (frW_t g3 (frW_o (by omega))) (frW_o (by omega)), ?_⟩
    · rw [sp_ne (by omega), sp_ne (by omega)]; exact hst3
    · unfold r_hW at *
      rw [sp_ne (by omega), sp_ne (by omega), sp_ne (by omega), sp_ne (by omega), sp_ne (by omega), sp_ne (by omega), sp_ne (by omega), sp_ne (by omega), sp_ne (by omega), sp_ne (by omega), sp_ne (by omega), sp_ne (by omega), sp_ne (by omega), sp_ne (by omega), sp_ne (by omega), sp_ne (by omega)]; exact b5
    · rw [sp_ne (by omega), sp_ne (by omega), sp_ne (by omega), sp_ne (by omega)]; exact b6
    · rw [sp_same, up_ne (by omega), sp_same, up_ne (by omega), sp_ne (by omega), sp_ne (by omega), o3, t10]; exact hst4
    · rw [sp_same, up_ne (by omega), sp_same, up_same, sp_ne (by omega), sp_same, up_same]
    · rw [sp_same, up_same, sp_same, up_same]; exact ⟨rfl, Or.inr ⟨t, by omega, rfl⟩⟩
    · unfold timeC; rw [sp_ne (by omega), sp_ne (by omega)]; exact b7
