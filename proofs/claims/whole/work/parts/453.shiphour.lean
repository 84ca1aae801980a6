/-! an hour of the ship: shaken, water, soup -/
def frC (y b : Nat) (σ σ' : St) : Prop := (∀ a, ¬ a = b → ¬ a = b + 2 → ¬ (b + 3 ≤ a ∧ a ≤ b + 6) → ¬ a = 29 → ¬ a = y + 6 → σ' a = σ a) ∧ (∀ j, ¬ j = 4 → ¬ j = 5 → ¬ j = 6 → σ' b j = σ b j) ∧ ∀ j, ¬ j = 7 → σ' (b + 2) j = σ (b + 2) j
theorem frC_r (y b : Nat) (σ : St) : frC y b σ σ := ⟨fun _ _ _ _ _ _ => rfl, fun _ _ _ _ => rfl, fun _ _ => rfl⟩
theorem frC_t {y b : Nat} {σ σ' σ'' : St} (h : frC y b σ σ') (h' : frC y b σ' σ'') : frC y b σ σ'' := ⟨fun a h1 h2 h3 h4 h5 => by rw [h'.1 a h1 h2 h3 h4 h5, h.1 a h1 h2 h3 h4 h5], fun j h1 h2 h3 => by rw [h'.2.1 j h1 h2 h3, h.2.1 j h1 h2 h3], fun j hj => by rw [h'.2.2 j hj, h.2.2 j hj]⟩
theorem frC_a {y b p j : Nat} {σ : St} {v : Int32} (hp : b + 3 ≤ p ∧ p ≤ b + 6) : frC y b σ (st_put σ p j v) := ⟨fun a _ _ h3 _ _ => sp_ne (by rintro rfl; exact h3 hp), fun j _ _ _ => by rw [sp_ne (by omega)], fun j _ => by rw [sp_ne (by omega)]⟩
theorem frC_2 {y b : Nat} {σ σ' : St} (hb : b ≤ 17) (hy : 44 ≤ y) (h : same2 29 (y + 6) σ σ') : frC y b σ σ' := ⟨fun a _ _ _ h4 h5 => h a h4 h5, fun j _ _ _ => by rw [h b (by omega) (by omega)], fun j _ => by rw [h (b + 2) (by omega) (by omega)]⟩
theorem frC_S {y b : Nat} {σ σ' : St} (hb : b ≤ 17) (hy : 44 ≤ y) (h : frS y (b + 2) σ σ') : frC y b σ σ' := ⟨fun a h1 h2 h3 h4 h5 => h.1 a (by omega) (by omega) h4 h5, fun j _ _ _ => by rw [h.1 b (by omega) (by omega) (by omega) (by omega)], fun j hj => h.2 j hj⟩
theorem frC_o {y b j : Nat} {σ : St} {v : Int32} (hj : j = 4 ∨ j = 5 ∨ j = 6) : frC y b σ (st_put σ b j v) := ⟨fun a h1 _ _ _ _ => sp_ne h1, fun i h1 h2 h3 => by rw [sp_same, up_ne (by omega)], fun i _ => by rw [sp_ne (by omega)]⟩
def frW (w : Nat) (τ τ' : St) : Prop := (∀ a, ¬ (5 ≤ a ∧ a ≤ 12) → ¬ a = 24 → ¬ a = 25 → ¬ a = 26 → τ' a = τ a) ∧ (∀ a j, 5 ≤ a → a ≤ 8 → ¬ (144 * w ≤ j ∧ j < 144 * w + 144) → τ' a j = τ a j) ∧ ∀ a j, 9 ≤ a → a ≤ 12 → ¬ j = w → τ' a j = τ a j
theorem frW_r (w : Nat) (τ : St) : frW w τ τ := ⟨fun _ _ _ _ _ => rfl, fun _ _ _ _ _ => rfl, fun _ _ _ _ _ => rfl⟩
theorem frW_t {w : Nat} {τ τ' τ'' : St} (h : frW w τ τ') (h' : frW w τ' τ'') : frW w τ τ'' := ⟨fun a h1 h2 h3 h4 => by rw [h'.1 a h1 h2 h3 h4, h.1 a h1 h2 h3 h4], fun a j h1 h2 h3 => by rw [h'.2.1 a j h1 h2 h3, h.2.1 a j h1 h2 h3], fun a j h1 h2 h3 => by rw [h'.2.2 a j h1 h2 h3, h.2.2 a j h1 h2 h3]⟩
theorem frW_a {w p j : Nat} {τ : St} {v : Int32} (hp : 5 ≤ p ∧ p ≤ 8) (hj : 144 * w ≤ j ∧ j < 144 * w + 144) : frW w τ (st_put τ p j v) := by
  refine ⟨fun a h1 _ _ _ => sp_ne (by omega), fun a i h1 h2 h3 => ?_, fun a i h1 h2 h3 => by rw [sp_ne (by omega)]⟩
  by_cases q : a = p
  · subst q; rw [sp_same, up_ne (by rintro rfl; exact h3 hj)]
  · rw [sp_ne q]
theorem frW_o {w p : Nat} {τ : St} {v : Int32} (hp : 9 ≤ p ∧ p ≤ 12) : frW w τ (st_put τ p w v) := by
  refine ⟨fun a h1 _ _ _ => sp_ne (by omega), fun a i h1 h2 h3 => by rw [sp_ne (by omega)], fun a i h1 h2 h3 => ?_⟩
  by_cases q : a = p
  · subst q; rw [sp_same, up_ne h3]
  · rw [sp_ne q]
theorem frW_g {w j : Nat} {τ : St} {v : Int32} : frW w τ (st_put τ 26 j v) := ⟨fun a _ _ _ h => sp_ne h, fun a j h1 h2 _ => by rw [sp_ne (by omega)], fun a j h1 h2 _ => by rw [sp_ne (by omega)]⟩
theorem frW_2 {w : Nat} {τ τ' : St} (h : same2 24 25 τ τ') : frW w τ τ' := ⟨fun a _ h2 h3 _ => h a h2 h3, fun a j h1 h2 _ => by rw [h a (by omega) (by omega)], fun a j h1 h2 _ => by rw [h a (by omega) (by omega)]⟩
theorem lawsC_C {y b : Nat} {σ σ' : St} {P : Pg} (hb : b ≤ 17) (h : lawsC σ y P) (hf : frC y b σ σ') : lawsC σ' y P := by
  have y44 := fW_ge h.1
  exact lawsC_fr h (hf.1 28 (by omega) (by omega) (by omega) (by omega) (by omega)) (fun a h1 h2 => hf.1 a (by omega) (by omega) (by omega) (by omega) (by omega))
theorem lawsM_W {w : Nat} {τ τ' : St} {P : Pg} (h : lawsM τ P) (hf : frW w τ τ') : lawsM τ' P := lawsM_fr h (fun a h1 h2 => hf.1 a (by omega) (by omega) (by omega) (by omega))
theorem r_stk_C {y b : Nat} {σ σ' : St} (h : r_stk (σ (b + 2))) (hf : frC y b σ σ') : r_stk (σ' (b + 2)) := by
  obtain ⟨h1, h2, h3⟩ := h
  exact ⟨by rw [hf.2.2 0 (by omega)]; exact h1, by rw [hf.2.2 1 (by omega)]; exact h2, by rw [hf.2.2 2 (by omega)]; exact h3⟩
/-- shaken -/
def skN (sl : Nat) (O K : Nat → Nat) (c : Nat) : Nat := if O c = 0 then K c else capN (K c + sl)
theorem shk_s (b f : Nat) (σ : St) (x y : Int32) : fX8_shake_2 b (f + 1) σ x y = fX8_shake_2B b (fX8_shake_2 b f) σ x y := rfl
theorem shM6_s (f : Nat) (σ : St) (x y z : Int32) : fX11_shakes_6 (f + 1) σ x y z = fX11_shakes_6B (fX11_shakes_6 f) σ x y z := rfl
theorem shake_both {y w b sl t : Nat} {σ0 τ0 : St} {O W K Q : Nat → Nat} (hw : w < 2) (hb : stN (b + 2) = 144) (hr : r_hold O W K Q) (hsl : sl ≤ 9) (ht : t < 720) (hsw : τ0 2 (t / 24) = nI sl) : ∀ (d c f : Nat) (σ τ : St) (Kc : Nat → Nat), c + d = 144 → d < f → frC y b σ0 σ → frW w τ0 τ → r_hW w b σ τ O W Kc Q → (∀ i, i < 144 → Kc i = if i < c then skN sl O K i else K i) → (∀ a, ¬ a = b + 5 → σ a = σ0 a) → (∀ a, ¬ a = 7 → τ a = τ0 a) → ∃ σ' τ', fX8_shake_2 (b + 2) f σ (nI sl) (nI c) = some σ' ∧ fX11_shakes_6 f τ (nI w) (nI t) (nI (144 * w + c)) = some τ' ∧ frC y b σ0 σ' ∧ frW w τ0 τ' ∧ r_hW w b σ' τ' O W (skN sl O K) Q ∧ (∀ a, ¬ a = b + 5 → σ' a = σ0 a) ∧ (∀ a, ¬ a = 7 → τ' a = τ0 a) := by
  intro d
  induction d with
  | zero =>
    intro c f σ τ Kc h1 h2 hf hg hh hK hs hs'
    obtain ⟨f, rfl⟩ : ∃ g, f = g + 1 := ⟨f - 1, by omega⟩
    have : c = 144 := by omega
    subst this
    rw [shk_s, shM6_s]; unfold fX8_shake_2B fX11_shakes_6B
    rw [hb, w144, if_pos (nI_le (Nat.le_refl _) (by omega)), if_pos (nI_le (Nat.le_refl _) (by omega))]
    refine ⟨σ, τ, rfl, rfl, hf, hg, fun j hj => ?_, hs, hs'⟩
    have := hh j hj
    rw [hK j hj, if_pos hj] at this
    exact this
  | succ d ih =>
    intro c f σ τ Kc h1 h2 hf hg hh hK hs hs'
    obtain ⟨f, rfl⟩ : ∃ g, f = g + 1 := ⟨f - 1, by omega⟩
    have hc : c < 144 := by omega
    obtain ⟨q1, q2, q3, q4, q5, q6, q7, q8⟩ := hh c hc
    obtain ⟨r1, r2, r3, r4, r5⟩ := hr.1 c hc
    rw [hK c hc, if_neg (show ¬ c < c by omega)] at q3 q7
    have dv : nI t / 24 = nI (t / 24) := by rw [show (24 : Int32) = nI 24 from rfl, pk_div (by omega) (by omega) (by omega)]
    rw [shk_s, shM6_s]; unfold fX8_shake_2B fX11_shakes_6B
    rw [hb, w144, if_neg (fun q => absurd ((nI_leI (by omega) (by omega)).mp q) (by omega)), if_neg (fun q => absurd ((nI_leI (by omega) (by omega)).mp q) (by omega)), p_rdN (f := σ (b + 2 + 1)) hc (by omega), p_rdN (f := τ 5) (by omega) (by omega), q1, q5, show nI c + 1 = nI (c + 1) from (nI_succ _).symm, show nI (144 * w + c) + 1 = nI (144 * w + (c + 1)) from (nI_succ _).symm]
    by_cases co : O c = 0
    · rw [if_pos ((nI_le0 (by omega)).mpr co), if_pos ((nI_le0 (by omega)).mpr co)]
      refine ih (c + 1) f σ τ Kc (by omega) (by omega) hf hg hh (fun j hj => ?_) hs hs'
      rw [hK j hj]
      by_cases q : j = c
      · subst q
        rw [if_neg (by omega), if_pos (by omega)]
        unfold skN; rw [if_pos co]
      · by_cases q' : j < c
        · rw [if_pos q', if_pos (by omega)]
        · rw [if_neg q', if_neg (by omega)]
    · rw [if_neg (fun q => co ((nI_le0 (by omega)).mp q)), if_neg (fun q => co ((nI_le0 (by omega)).mp q)), p_rdN (f := σ (b + 2 + 3)) hc (by omega), p_wrN hc (by omega), p_rdN (f := τ 7) (by omega) (by omega), dv, p_rdN (f := τ 2) (by omega) (by omega), hs' 2 (by omega), hsw, p_wrN (by omega) (by omega), q3, q7, cap_C (by omega) (by omega), more_M (by omega) (by omega)]
      have sk : skN sl O K c = capN (K c + sl) := by unfold skN; rw [if_neg co]
      refine ih (c + 1) f _ _ (fun j => if j = c then capN (K c + sl) else Kc j) (by omega) (by omega) (frC_t hf (frC_a (by omega))) (frW_t hg (frW_a (by omega) (by omega))) ?_ ?_ (fun a ha => by rw [sp_ne (by omega), hs a ha]) (fun a ha => by rw [sp_ne ha, hs' a ha])
      · intro j hj
        obtain ⟨p1, p2, p3, p4, p5, p6, p7, p8⟩ := hh j hj
        refine ⟨by rw [sp_ne (by omega)]; exact p1, by rw [sp_ne (by omega)]; exact p2, ?_, by rw [sp_ne (by omega)]; exact p4, by rw [sp_ne (by omega)]; exact p5, by rw [sp_ne (by omega)]; exact p6, ?_, by rw [sp_ne (by omega)]; exact p8⟩
        · show _ = nI (if j = c then capN (K c + sl) else Kc j)
          rw [sp_same]
          by_cases q : j = c
          · rw [if_pos q, q, up_same]
          · rw [if_neg q, up_ne q]; exact p3
        · show _ = nI (if j = c then capN (K c + sl) else Kc j)
          rw [sp_same]
          by_cases q : j = c
          · rw [if_pos q, q, up_same]
          · rw [if_neg q, up_ne (by omega)]; exact p7
      · intro j hj
        show (if j = c then capN (K c + sl) else Kc j) = _
        by_cases q : j = c
        · subst q; rw [if_pos rfl, if_pos (by omega), sk]
        · rw [if_neg q, hK j hj]
          by_cases q' : j < c
          · rw [if_pos q', if_pos (by omega)]
          · rw [if_neg q', if_neg (by omega)]
theorem sk_hold {O W K Q : Nat → Nat} (sl : Nat) (hr : r_hold O W K Q) : r_hold O W (skN sl O K) Q := by
  refine ⟨fun j hj => ?_, hr.2⟩
  obtain ⟨r1, r2, r3, r4, r5⟩ := hr.1 j hj
  refine ⟨r1, r2, ?_, r4, fun h => ⟨(r5 h).1, ?_, (r5 h).2.2⟩⟩
  · unfold skN; split
    · exact r3
    · exact (capN_le _).1
  · unfold skN; rw [if_pos h]; exact (r5 h).2.1
/-! the model's water in the holds -/
def spG (P : Pg) (so rn ck : Nat) (O W K : Nat → Nat) (c : Nat) : Nat := if O c = 0 then 0 else heldN (lawV (envW (O c) (W c) (c % 6) so rn ck (K c) 0) 0 P) (W c)
def spC (w : Nat) (τ : St) (O W K : Nat → Nat) : Prop := ∀ j, j < 144 → τ 5 (144 * w + j) = nI (O j) ∧ τ 6 (144 * w + j) = nI (W j) ∧ τ 7 (144 * w + j) = nI (K j)
theorem sw9_s (f : Nat) (σ : St) (a b c d : Int32) : fX11_shipWater_9 (f + 1) σ a b c d = fX11_shipWater_9B (fX11_shipWater_9 f) σ a b c d := rfl
theorem sw83_s (f : Nat) (σ : St) (a b c d : Int32) : fX11_shipWater_83 (f + 1) σ a b c d = fX11_shipWater_83B (fX11_shipWater_83 f) σ a b c d := rfl
theorem sw154_s (f : Nat) (σ : St) (a b c d : Int32) : fX11_shipWater_154 (f + 1) σ a b c d = fX11_shipWater_154B (fX11_shipWater_154 f) σ a b c d := rfl
theorem sw260_s (f : Nat) (σ : St) (a b c : Int32) : fX11_shipWater_260 (f + 1) σ a b c = fX11_shipWater_260B (fX11_shipWater_260 f) σ a b c := rfl
theorem sGives_M {w so rn t : Nat} {P : Pg} {τ0 : St} {O W K Q : Nat → Nat} (hw : w < 2) (ht : t < 720) (hr : r_hold O W K Q) (hs : τ0 0 2 = nI so) (hr1 : τ0 1 (t / 24) = nI rn) (hl : lawsM τ0 P) (hc : spC w τ0 O W K) : ∀ (d m f : Nat) (τ : St), m + d = 144 → d < f → (∀ a, ¬ a = 24 → ¬ a = 25 → ¬ a = 26 → τ a = τ0 a) → (∀ i, i < m → τ 26 i = nI (spG P so rn (t % 24) O W K i)) → ∃ τ', fX11_shipWater_9 f τ (nI w) (nI t) (nI (144 * w)) (nI m) = fX11_shipWater_83 FU τ' (nI w) (nI t) (nI (144 * w)) 0 ∧ (∀ a, ¬ a = 24 → ¬ a = 25 → ¬ a = 26 → τ' a = τ0 a) ∧ ∀ i, i < 144 → τ' 26 i = nI (spG P so rn (t % 24) O W K i) := by
  intro d
  induction d with
  | zero =>
    intro m f τ h1 h2 hf hg
    obtain ⟨f, rfl⟩ : ∃ g, f = g + 1 := ⟨f - 1, by omega⟩
    have : m = 144 := by omega
    subst this
    rw [sw9_s]; unfold fX11_shipWater_9B
    rw [if_pos (show (144 : Int32) ≤ nI 144 by decide)]
    exact ⟨τ, rfl, hf, hg⟩
  | succ d ih =>
    intro m f τ h1 h2 hf hg
    obtain ⟨f, rfl⟩ : ∃ g, f = g + 1 := ⟨f - 1, by omega⟩
    have hm : m < 144 := by omega
    obtain ⟨c1, c2, c3⟩ := hc m hm
    obtain ⟨r1, r2, r3, r4, r5⟩ := hr.1 m hm
    rw [sw9_s]; unfold fX11_shipWater_9B
    rw [if_neg (show ¬ (144 : Int32) ≤ nI m from fun q => absurd ((nI_leI (a := 144) (by omega) (by omega)).mp q) (by omega)), p_wrN (by omega) (by omega), nI_add, p_rdN (by omega) (by omega), sp_ne (a := 5) (by omega), hf 5 (by omega) (by omega) (by omega), c1, show nI m + 1 = nI (m + 1) from (nI_succ _).symm]
    generalize hA : st_put τ 26 m 0 = A
    have fA : ∀ a, ¬ a = 24 → ¬ a = 25 → ¬ a = 26 → A a = τ0 a := fun a h1 h2 h3 => by rw [← hA, sp_ne h3, hf a h1 h2 h3]
    by_cases co : O m = 0
    · rw [if_pos ((nI_e0 (by omega)).mpr co)]
      refine ih (m + 1) f A (by omega) (by omega) fA ?_
      intro i hi
      by_cases q : i = m
      · subst q; rw [← hA, sp_same, up_same]; unfold spG; rw [if_pos co]; rfl
      · rw [← hA, sp_same, up_ne q]; exact hg i (by omega)
    · rw [if_neg (fun q => co ((nI_e0 (by omega)).mp q))]
      obtain ⟨τ1, v1, v2, v3⟩ := takesShip_M (τ := A) (c := 144 * w + m) (o := O m) (w := W m) (k := K m) (t := t) (sort := so) (rain := rn) (by omega) r1 r2 ht (by rw [fA 0 (by omega) (by omega) (by omega)]; exact hs) (by rw [fA 1 (by omega) (by omega) (by omega)]; exact hr1) (by rw [fA 5 (by omega) (by omega) (by omega)]; exact c1) (by rw [fA 6 (by omega) (by omega) (by omega)]; exact c2) (by rw [fA 7 (by omega) (by omega) (by omega)]; exact c3)
      rw [show (144 * w + m) % 6 = m % 6 by omega] at v3
      obtain ⟨τ2, w1, w2⟩ := lawOf_M2 (h := 0) (lawsM_fr hl (τ' := A) (fun a h1 h2 => fA a (by omega) (by omega) (by omega))) (by omega) v2 v3
      have e6 : τ2 6 (144 * w + m) = nI (W m) := by rw [w2 6 (by omega) (by omega), fA 6 (by omega) (by omega) (by omega)]; exact c2
      rw [v1, p_cv, show fX11_lawOf τ1 0 = _ from w1, p_cb, p_rdN (by omega) (by omega), p_wrN (by omega) (by omega), e6, cut_M _ (by omega)]
      refine ih (m + 1) f _ (by omega) (by omega) (fun a h1 h2 h3 => by rw [sp_ne h3, w2 a h1 h2, fA a h1 h2 h3]) ?_
      intro i hi
      by_cases q : i = m
      · subst q; rw [sp_same, up_same]; unfold spG; rw [if_neg co]
      · rw [sp_same, up_ne q, w2 26 (by omega) (by omega), ← hA, sp_same, up_ne q]; exact hg i (by omega)
theorem rem6 {m : Nat} (h : m < 1000) : nI m - nI m / 6 * 6 = nI (m % 6) := pk_rem (d := 6) (by omega) (by omega) (by omega)
theorem sTakes_M {w : Nat} {x2 : Int32} {W G : Nat → Nat} {τ0 : St} (hw : w < 2) (hG : ∀ i, i < 144 → G i ≤ W i ∧ W i ≤ 9999) (hg : ∀ i, i < 144 → τ0 26 i = nI (G i)) : ∀ (d m f : Nat) (τ : St), m + d = 144 → d < f → frW w τ0 τ → (∀ a, ¬ a = 6 → ¬ a = 9 → τ a = τ0 a) → (∀ i, i < 144 → τ 6 (144 * w + i) = nI (if i < m then W i - G i else W i)) → ∃ τ', fX11_shipWater_83 f τ (nI w) x2 (nI (144 * w)) (nI m) = fX11_shipWater_154 FU τ' (nI w) x2 (nI (144 * w)) 0 ∧ frW w τ0 τ' ∧ (∀ a, ¬ a = 6 → ¬ a = 9 → τ' a = τ0 a) ∧ (∀ i, i < 144 → τ' 6 (144 * w + i) = nI (W i - G i)) ∧ τ' 9 w = τ 9 w + sumI (fun i => if i % 6 = 0 then nI (G i) else 0) m d := by
  intro d
  induction d with
  | zero =>
    intro m f τ h1 h2 hf hj hq
    obtain ⟨f, rfl⟩ : ∃ g, f = g + 1 := ⟨f - 1, by omega⟩
    have : m = 144 := by omega
    subst this
    rw [sw83_s]; unfold fX11_shipWater_83B
    rw [if_pos (show (144 : Int32) ≤ nI 144 by decide)]
    refine ⟨τ, rfl, hf, hj, fun i hi => by rw [hq i hi, if_pos hi], ?_⟩
    show τ 9 w = τ 9 w + 0
    grind
  | succ d ih =>
    intro m f τ h1 h2 hf hj hq
    obtain ⟨f, rfl⟩ : ∃ g, f = g + 1 := ⟨f - 1, by omega⟩
    have hm : m < 144 := by omega
    obtain ⟨g1, g2⟩ := hG m hm
    have hwm : τ 6 (144 * w + m) = nI (W m) := by rw [hq m hm, if_neg (by omega)]
    rw [sw83_s]; unfold fX11_shipWater_83B
    rw [if_neg (show ¬ (144 : Int32) ≤ nI m from fun q => absurd ((nI_leI (a := 144) (by omega) (by omega)).mp q) (by omega)), nI_add, p_rdN (by omega) (by omega), p_rdN (by omega) (by omega), p_wrN (by omega) (by omega), hwm, hj 26 (by omega) (by omega), hg m hm, pk_sub g1, show nI m + 1 = nI (m + 1) from (nI_succ _).symm, rem6 (by omega)]
    generalize hA : st_put τ 6 (144 * w + m) (nI (W m - G m)) = A
    have fA : frW w τ0 A := by rw [← hA]; exact frW_t hf (frW_a (by omega) (by omega))
    have jA : ∀ a, ¬ a = 6 → ¬ a = 9 → A a = τ0 a := fun a h1 h2 => by rw [← hA, sp_ne h1, hj a h1 h2]
    have oA : A 9 = τ 9 := by rw [← hA, sp_ne (by omega)]
    have wA : ∀ i, i < 144 → A 6 (144 * w + i) = nI (if i < m + 1 then W i - G i else W i) := by
      intro i hi
      rw [← hA, sp_same]
      by_cases q : i = m
      · subst q; rw [up_same, if_pos (by omega)]
      · rw [up_ne (by omega), hq i hi]
        by_cases q' : i < m
        · rw [if_pos q', if_pos (by omega)]
        · rw [if_neg q', if_neg (by omega)]
    by_cases c : m % 6 = 0
    · rw [if_pos ((nI_e0 (by omega)).mpr c), p_rdN hw (by omega), p_rdN (by omega) (by omega), p_wrN hw (by omega), jA 26 (by omega) (by omega), hg m hm, oA]
      obtain ⟨τ', u1, u2, u3, u4, u5⟩ := ih (m + 1) f (st_put A 9 w (τ 9 w + nI (G m))) (by omega) (by omega) (frW_t fA (frW_o (by omega))) (fun a h1 h2 => by rw [sp_ne h2, jA a h1 h2]) (fun i hi => by rw [sp_ne (by omega)]; exact wA i hi)
      refine ⟨τ', u1, u2, u3, u4, ?_⟩
      rw [u5, sp_same, up_same]
      show _ = τ 9 w + ((if m % 6 = 0 then nI (G m) else 0) + sumI (fun i => if i % 6 = 0 then nI (G i) else 0) (m + 1) d)
      rw [if_pos c]; grind
    · rw [if_neg (fun q => c ((nI_e0 (by omega)).mp q))]
      obtain ⟨τ', u1, u2, u3, u4, u5⟩ := ih (m + 1) f A (by omega) (by omega) fA jA wA
      refine ⟨τ', u1, u2, u3, u4, ?_⟩
      rw [u5, oA]
      show _ = τ 9 w + ((if m % 6 = 0 then nI (G m) else 0) + sumI (fun i => if i % 6 = 0 then nI (G i) else 0) (m + 1) d)
      rw [if_neg c]; grind
theorem sPuts_M {w : Nat} {x2 : Int32} {V G : Nat → Nat} {τ0 : St} (hw : w < 2) (hG : ∀ i, i < 144 → V i ≤ 9999 ∧ G i ≤ 9999) (hg : ∀ i, i < 144 → τ0 26 i = nI (G i)) : ∀ (d m f : Nat) (τ : St), m + d = 144 → d < f → frW w τ0 τ → (∀ a, ¬ a = 6 → ¬ a = 9 → τ a = τ0 a) → (∀ i, i < 144 → τ 6 (144 * w + i) = nI (if i < m ∧ ¬ i % 6 = 5 then capN (V i + G (i + 1)) else V i)) → ∃ τ', fX11_shipWater_154 f τ (nI w) x2 (nI (144 * w)) (nI m) = fX11_shipWater_260 FU τ' x2 (nI (144 * w)) (nI (144 * w)) ∧ frW w τ0 τ' ∧ (∀ a, ¬ a = 6 → ¬ a = 9 → τ' a = τ0 a) ∧ (∀ i, i < 144 → τ' 6 (144 * w + i) = nI (if i % 6 = 5 then V i else capN (V i + G (i + 1)))) ∧ τ' 9 w = τ 9 w + sumI (fun i => if i % 6 = 5 then 0 else nI (V i + G (i + 1) - capN (V i + G (i + 1)))) m d := by
  intro d
  induction d with
  | zero =>
    intro m f τ h1 h2 hf hj hq
    obtain ⟨f, rfl⟩ : ∃ g, f = g + 1 := ⟨f - 1, by omega⟩
    have : m = 144 := by omega
    subst this
    rw [sw154_s]; unfold fX11_shipWater_154B
    rw [if_pos (show (144 : Int32) ≤ nI 144 by decide)]
    refine ⟨τ, rfl, hf, hj, fun i hi => ?_, ?_⟩
    · rw [hq i hi]
      by_cases c : i % 6 = 5
      · rw [if_neg (by omega), if_pos c]
      · rw [if_pos ⟨hi, c⟩, if_neg c]
    · show τ 9 w = τ 9 w + 0
      grind
  | succ d ih =>
    intro m f τ h1 h2 hf hj hq
    obtain ⟨f, rfl⟩ : ∃ g, f = g + 1 := ⟨f - 1, by omega⟩
    have hm : m < 144 := by omega
    obtain ⟨g1, g2⟩ := hG m hm
    have hwm : τ 6 (144 * w + m) = nI (V m) := by rw [hq m hm, if_neg (by omega)]
    rw [sw154_s]; unfold fX11_shipWater_154B
    rw [if_neg (show ¬ (144 : Int32) ≤ nI m from fun q => absurd ((nI_leI (a := 144) (by omega) (by omega)).mp q) (by omega)), show nI m + 1 = nI (m + 1) from (nI_succ _).symm, rem6 (by omega)]
    by_cases c : m % 6 = 5
    · rw [if_pos (show nI (m % 6) = 5 by rw [c]; rfl)]
      obtain ⟨τ', u1, u2, u3, u4, u5⟩ := ih (m + 1) f τ (by omega) (by omega) hf hj (by
        intro i hi
        rw [hq i hi]
        by_cases q : i = m
        · subst q; rw [if_neg (by omega), if_neg (by omega)]
        · by_cases q' : i < m ∧ ¬ i % 6 = 5
          · rw [if_pos q', if_pos (by omega)]
          · rw [if_neg q', if_neg (by omega)])
      refine ⟨τ', u1, u2, u3, u4, ?_⟩
      rw [u5]
      show _ = τ 9 w + ((if m % 6 = 5 then 0 else nI (V m + G (m + 1) - capN (V m + G (m + 1)))) + sumI (fun i => if i % 6 = 5 then 0 else nI (V i + G (i + 1) - capN (V i + G (i + 1)))) (m + 1) d)
      rw [if_pos c]; grind
    · obtain ⟨g3, g4⟩ := hG (m + 1) (by omega)
      rw [if_neg (show ¬ nI (m % 6) = 5 from fun q => c ((nI_eq (b := 5) (by omega) (by omega)).mp q)), nI_add, p_rdN (by omega) (by omega), p_rdN (by omega) (by omega), p_rdN (by omega) (by omega), p_rdN (by omega) (by omega), hwm, hj 26 (by omega) (by omega), hg (m + 1) (by omega), more_M (by omega) (by omega), p_wrN (by omega) (by omega), p_rdN hw (by omega), p_rdN (by omega) (by omega), p_wrN hw (by omega), sp_same, up_same, sp_ne (a := 9) (by omega), nI_add]
      obtain ⟨τ', u1, u2, u3, u4, u5⟩ := ih (m + 1) f (st_put (st_put τ 6 (144 * w + m) (nI (capN (V m + G (m + 1))))) 9 w (τ 9 w + nI (V m + G (m + 1)) - nI (capN (V m + G (m + 1))))) (by omega) (by omega) (frW_t (frW_t hf (frW_a (by omega) (by omega))) (frW_o (by omega))) (fun a h1 h2 => by rw [sp_ne h2, sp_ne h1, hj a h1 h2]) (fun i hi => by
        rw [sp_ne (by omega), sp_same]
        by_cases q : i = m
        · subst q; rw [up_same, if_pos (by omega)]
        · rw [up_ne (by omega), hq i hi]
          by_cases q' : i < m ∧ ¬ i % 6 = 5
          · rw [if_pos q', if_pos (by omega)]
          · rw [if_neg q', if_neg (by omega)])
      refine ⟨τ', u1, u2, u3, u4, ?_⟩
      rw [u5, sp_same, up_same]
      show _ = τ 9 w + ((if m % 6 = 5 then 0 else nI (V m + G (m + 1) - capN (V m + G (m + 1)))) + sumI (fun i => if i % 6 = 5 then 0 else nI (V i + G (i + 1) - capN (V i + G (i + 1)))) (m + 1) d)
      rw [if_neg c, ← sub_cap]; grind
/-- soup -/
def soN (P : Pg) (so rn ck : Nat) (O W K : Nat → Nat) (c : Nat) : Nat := if O c = 0 then 0 else if lawV (envW (O c) (W c) (c % 6) so rn ck (K c) 0) 2 P ≤ 0 then 0 else 1
theorem soup_M {w so rn t : Nat} {P : Pg} {τ0 : St} {O W K Q : Nat → Nat} (hw : w < 2) (ht : t < 720) (hr : r_hold O W K Q) (hs : τ0 0 2 = nI so) (hr1 : τ0 1 (t / 24) = nI rn) (hl : lawsM τ0 P) (hc : spC w τ0 O W K) : ∀ (d m f : Nat) (τ : St), m + d = 144 → d < f → frW w τ0 τ → (∀ a, ¬ a = 24 → ¬ a = 25 → ¬ a = 8 → τ a = τ0 a) → (∀ i, i < m → τ 8 (144 * w + i) = nI (soN P so rn (t % 24) O W K i)) → ∃ τ', fX11_shipWater_260 f τ (nI t) (nI (144 * w)) (nI (144 * w + m)) = some τ' ∧ frW w τ0 τ' ∧ (∀ a, ¬ a = 24 → ¬ a = 25 → ¬ a = 8 → τ' a = τ0 a) ∧ ∀ i, i < 144 → τ' 8 (144 * w + i) = nI (soN P so rn (t % 24) O W K i) := by
  intro d
  induction d with
  | zero =>
    intro m f τ h1 h2 hf hj hq
    obtain ⟨f, rfl⟩ : ∃ g, f = g + 1 := ⟨f - 1, by omega⟩
    have : m = 144 := by omega
    subst this
    rw [sw260_s]; unfold fX11_shipWater_260B
    rw [show (144 : Int32) = nI 144 from rfl, nI_add, if_pos (nI_le (Nat.le_refl _) (by omega))]
    exact ⟨τ, rfl, hf, hj, hq⟩
  | succ d ih =>
    intro m f τ h1 h2 hf hj hq
    obtain ⟨f, rfl⟩ : ∃ g, f = g + 1 := ⟨f - 1, by omega⟩
    have hm : m < 144 := by omega
    obtain ⟨c1, c2, c3⟩ := hc m hm
    obtain ⟨r1, r2, r3, r4, r5⟩ := hr.1 m hm
    rw [sw260_s]; unfold fX11_shipWater_260B
    rw [show (144 : Int32) = nI 144 from rfl, nI_add, if_neg (fun q => absurd ((nI_leI (by omega) (by omega)).mp q) (by omega)), p_wrN (by omega) (by omega), p_rdN (by omega) (by omega), sp_ne (a := 5) (by omega), hj 5 (by omega) (by omega) (by omega), c1, show nI (144 * w + m) + 1 = nI (144 * w + (m + 1)) from (nI_succ _).symm, bo0]
    generalize hA : st_put τ 8 (144 * w + m) 0 = A
    have fA : frW w τ0 A := by rw [← hA]; exact frW_t hf (frW_a (by omega) (by omega))
    have jA : ∀ a, ¬ a = 24 → ¬ a = 25 → ¬ a = 8 → A a = τ0 a := fun a h1 h2 h3 => by rw [← hA, sp_ne h3, hj a h1 h2 h3]
    by_cases co : O m = 0
    · rw [if_pos ((nI_e0 (by omega)).mpr co)]
      refine ih (m + 1) f A (by omega) (by omega) fA jA ?_
      intro i hi
      by_cases q : i = m
      · subst q; rw [← hA, sp_same, up_same]; unfold soN; rw [if_pos co]; rfl
      · rw [← hA, sp_same, up_ne (by omega)]; exact hq i (by omega)
    · rw [if_neg (fun q => co ((nI_e0 (by omega)).mp q))]
      obtain ⟨τ1, v1, v2, v3⟩ := takesShip_M (τ := A) (c := 144 * w + m) (o := O m) (w := W m) (k := K m) (t := t) (sort := so) (rain := rn) (by omega) r1 r2 ht (by rw [jA 0 (by omega) (by omega) (by omega)]; exact hs) (by rw [jA 1 (by omega) (by omega) (by omega)]; exact hr1) (by rw [jA 5 (by omega) (by omega) (by omega)]; exact c1) (by rw [jA 6 (by omega) (by omega) (by omega)]; exact c2) (by rw [jA 7 (by omega) (by omega) (by omega)]; exact c3)
      rw [show (144 * w + m) % 6 = m % 6 by omega] at v3
      obtain ⟨τ2, w1, w2⟩ := lawOf_M2 (h := 2) (lawsM_fr hl (τ' := A) (fun a h1 h2 => jA a (by omega) (by omega) (by omega))) (by omega) v2 v3
      rw [v1, p_cv, show fX11_lawOf τ1 2 = _ from w1, p_cb]
      have fin : ∀ x : Int32, vp_nar .boolean x = nI (soN P so rn (t % 24) O W K m) → ∃ τ', fX11_shipWater_317 (fX11_shipWater_260 f) τ2 (nI t) (nI (144 * w)) (nI (144 * w + m)) x (nI (144 * w + m)) = some τ' ∧ frW w τ0 τ' ∧ (∀ a, ¬ a = 24 → ¬ a = 25 → ¬ a = 8 → τ' a = τ0 a) ∧ ∀ i, i < 144 → τ' 8 (144 * w + i) = nI (soN P so rn (t % 24) O W K i) := by
        intro x hx
        unfold fX11_shipWater_317
        rw [p_wrN (by omega) (by omega), hx, show nI (144 * w + m) + 1 = nI (144 * w + (m + 1)) from (nI_succ _).symm]
        refine ih (m + 1) f _ (by omega) (by omega) (frW_t (frW_t fA (frW_2 w2)) (frW_a (by omega) (by omega))) (fun a h1 h2 h3 => by rw [sp_ne h3, w2 a h1 h2, jA a h1 h2 h3]) ?_
        intro i hi
        by_cases q : i = m
        · subst q; rw [sp_same, up_same]
        · rw [sp_same, up_ne (by omega), w2 8 (by omega) (by omega), ← hA, sp_same, up_ne (by omega)]; exact hq i (by omega)
      by_cases cl : lawV (envW (O m) (W m) (m % 6) so rn (t % 24) (K m) 0) 2 P ≤ 0
      · rw [if_pos cl]; exact fin 0 (by unfold soN; rw [if_neg co, if_pos cl]; exact bo0)
      · rw [if_neg cl]; exact fin 1 (by unfold soN; rw [if_neg co, if_neg cl]; exact bo1)
theorem tts_s (b f : Nat) (σ : St) (x : Int32) : fX8_turnToSoup_2 b (f + 1) σ x = fX8_turnToSoup_2B b (fX8_turnToSoup_2 b f) σ x := rfl
theorem soup_C {y b so rn ck : Nat} {P : Pg} {σ0 : St} {O W K Q : Nat → Nat} (hb : b = 10 ∨ b = 17) (hr : r_hold O W K Q) (hs : r_stk (σ0 (b + 2))) (hl : lawsC σ0 y P) (hc : ∀ j, j < 144 → σ0 (b + 3) j = nI (O j) ∧ σ0 (b + 4) j = nI (W j) ∧ σ0 (b + 5) j = nI (K j)) : ∀ (d m f : Nat) (σ : St), m + d = 144 → d < f → (∀ a, ¬ a = 29 → ¬ a = y + 6 → ¬ a = b + 6 → σ a = σ0 a) → timeC σ so rn ck → (∀ i, i < m → σ (b + 6) i = nI (soN P so rn ck O W K i)) → ∃ σ', fX8_turnToSoup_2 (b + 2) f σ (nI m) = some σ' ∧ (∀ a, ¬ a = 29 → ¬ a = y + 6 → ¬ a = b + 6 → σ' a = σ0 a) ∧ timeC σ' so rn ck ∧ ∀ i, i < 144 → σ' (b + 6) i = nI (soN P so rn ck O W K i) := by
  have y44 := fW_ge hl.1
  have hb' : b ≤ 17 := by omega
  have sb : stN (b + 2) = 144 := by rcases hb with rfl | rfl <;> rfl
  intro d
  induction d with
  | zero =>
    intro m f σ h1 h2 hf hT hq
    obtain ⟨f, rfl⟩ : ∃ g, f = g + 1 := ⟨f - 1, by omega⟩
    have : m = 144 := by omega
    subst this
    rw [tts_s]; unfold fX8_turnToSoup_2B
    rw [sb, if_pos (nI_le (Nat.le_refl _) (by omega))]
    exact ⟨σ, rfl, hf, hT, hq⟩
  | succ d ih =>
    intro m f σ h1 h2 hf hT hq
    obtain ⟨f, rfl⟩ : ∃ g, f = g + 1 := ⟨f - 1, by omega⟩
    have hm : m < 144 := by omega
    obtain ⟨c1, c2, c3⟩ := hc m hm
    obtain ⟨r1, r2, r3, r4, r5⟩ := hr.1 m hm
    rw [tts_s]; unfold fX8_turnToSoup_2B
    obtain ⟨σ1, u1, u2, u3⟩ := shipLaw_C (b := b + 2) (y := y) (h := 2) (j := m) (σ := σ) (P := P) (o := O m) (w := W m) (k := K m) (sort := so) (rain := rn) (clock := ck) (by omega) (by rw [hf (b + 2) (by omega) (by omega) (by omega)]; exact hs) (lawsC_fr hl (hf 28 (by omega) (by omega) (by omega)) (fun a h1 h2 => hf a (by omega) (by omega) (by omega))) (by omega) hT hm r1 r2 (by rw [show b + 2 + 1 = b + 3 from rfl, hf (b + 3) (by omega) (by omega) (by omega)]; exact c1) (by rw [show b + 2 + 2 = b + 4 from rfl, hf (b + 4) (by omega) (by omega) (by omega)]; exact c2) (by rw [show b + 2 + 3 = b + 5 from rfl, hf (b + 5) (by omega) (by omega) (by omega)]; exact c3)
    rw [sb, if_neg (fun q => absurd ((nI_leI (by omega) (by omega)).mp q) (by omega)), show (2 : Int32) = nI 2 from rfl, u1, p_cb]
    have fin : ∀ x : Int32, x = nI (soN P so rn ck O W K m) → ∃ σ', fX8_turnToSoup_31 (b + 2) (fX8_turnToSoup_2 (b + 2) f) σ1 (nI m) x (nI m) = some σ' ∧ (∀ a, ¬ a = 29 → ¬ a = y + 6 → ¬ a = b + 6 → σ' a = σ0 a) ∧ timeC σ' so rn ck ∧ ∀ i, i < 144 → σ' (b + 6) i = nI (soN P so rn ck O W K i) := by
      intro x hx
      unfold fX8_turnToSoup_31
      rw [p_wrN (by omega) (by omega), hx, show nI m + 1 = nI (m + 1) from (nI_succ _).symm, show b + 2 + 4 = b + 6 from rfl]
      refine ih (m + 1) f _ (by omega) (by omega) (fun a h1 h2 h3 => by rw [sp_ne h3, u2 a h1 h2, hf a h1 h2 h3]) (by unfold timeC; rw [sp_ne (by omega)]; exact u3) ?_
      intro i hi
      by_cases q : i = m
      · subst q; rw [sp_same, up_same]
      · rw [sp_same, up_ne q, u2 (b + 6) (by omega) (by omega)]; exact hq i (by omega)
    by_cases co : O m = 0
    · rw [if_pos co, if_pos (show (0 : Int32) ≤ 0 by decide)]
      exact fin 0 (by unfold soN; rw [if_pos co]; rfl)
    · rw [if_neg co]
      by_cases cl : lawV (envW (O m) (W m) (m % 6) so rn ck (K m) 0) 2 P ≤ 0
      · rw [if_pos cl]; exact fin 0 (by unfold soN; rw [if_neg co, if_pos cl]; rfl)
      · rw [if_neg cl]; exact fin 1 (by unfold soN; rw [if_neg co, if_neg cl]; rfl)
