/-! a whole line in step -/
theorem h_laws (laws : Bool) : (hdN laws = 4 ↔ laws = true) ∧ (hdN laws = 3 ↔ laws = false) := by cases laws <;> decide
theorem ty_nonnil {nv : Nat} {C : Cd} (h : tyC nv C [] = some [true]) : ¬ C = [] := by
  rintro rfl
  exact absurd (show some ([] : List Bool) = some [true] from h) (by decide)
theorem line_when {laws : Bool} {T : Nat → Nat} {len n x c : Nat} {σ τ : St} {P : Pg} {h pr : Nat} {S : Cd} {rec21 : St → Int32 → Option (Int32 × St)} (hx : ctx laws T len n) (hC : cls laws T len n x σ c (flat P ++ S)) (hM : mdl laws T len τ c (xp (mpN laws) (flat P) ++ xp (mpN laws) S)) (h34 : τ 0 34 = 0) (hW : wdC x σ P) (hV : wdM laws τ P) (hP : P.length < 16) (hok : ∀ q ∈ P, okLn (nvN laws) (hdN laws) q) (hh : h < hdN laws) (hpr : pr < 4) (hl : laws = true → tyC (nvN laws) S [] = some [false]) (hcd : laws = false → S = [] ∧ kd laws T len c = 256) (e2 : σ (x + 2) P.length = nI h) (e3 : S = [] → σ (x + 3) P.length = nI pr) (m16 : τ 16 (32 + P.length) = nI (hbN laws + h)) (m17 : laws = false → τ 17 (32 + P.length) = nI pr) (m18 : τ 18 (32 + P.length) = nI (xp (mpN laws) (flat P)).length) (lF : (flat P ++ S).length ≤ c) (lX : (xp (mpN laws) (flat P) ++ xp (mpN laws) S).length ≤ c) : (∃ σ' τ', fX4_line_76 σ = some (0, σ') ∧ (cb (fX11_readLine_43 τ (nI (32 + P.length)) 0) fun r7 σ9 => if r7 = (-1) then some ((-1), σ9) else rec21 σ9 (nI P.length + 1)) = some (-1, τ') ∧ fltR σ' τ' ∧ frL x σ σ' ∧ frT2 τ τ') ∨ (∃ σ' τ' c' q, fX4_line_76 σ = some (1, σ') ∧ (cb (fX11_readLine_43 τ (nI (32 + P.length)) 0) fun r7 σ9 => if r7 = (-1) then some ((-1), σ9) else rec21 σ9 (nI P.length + 1)) = rec21 τ' (nI (P.length + 1)) ∧ c < c' ∧ c' ≤ n ∧ lnS laws T len n x σ' τ' c' (P ++ [q]) ∧ frL x σ σ' ∧ frT2 τ τ') := by
  have x44 := fW_ge hC.1
  have n6 : n ≤ 600 := by have := hx.1; have := hx.2.1; omega
  unfold fX4_line_76 fX11_readLine_43
  rw [cls_gw hC, if_neg (show ¬ (0 : Int32) = -1 by decide), p_wrN (by omega) (by omega)]
  unfold fX9_beginWhen
  rw [hW.1, if_neg (show ¬ (16 : Int32) ≤ nI P.length from fun q => absurd ((nI_leI (a := 16) (by omega) (by omega)).mp q) (by omega)), p_wrN hP (by omega), p_cv, hC.2.2.2.2.2.2.2.1, hM.2.2.2.2.2.1]
  generalize hA : st_put σ (x + 4) P.length (nI (flat P ++ S).length) = A
  generalize hB : st_put τ 19 (32 + P.length) (nI (xp (mpN laws) (flat P) ++ xp (mpN laws) S).length) = B
  have cA : cls laws T len n x A c (flat P ++ S) := by rw [← hA]; exact cls_p hC (by omega)
  have mB : mdl laws T len B c (xp (mpN laws) (flat P) ++ xp (mpN laws) S) := by rw [← hB]; exact mdl_p hM (by omega)
  have fA : frL x σ A := by rw [← hA]; exact frL_p x44 (by omega)
  have fB : frT2 τ B := by rw [← hB]; exact frT2_p (by omega) (by omega)
  have sA : ∀ a, ¬ a = x + 4 → A a = σ a := fun a ha => by rw [← hA, sp_ne ha]
  have sB : ∀ a, ¬ a = 19 → B a = τ a := fun a ha => by rw [← hB, sp_ne ha]
  have A4 : A (x + 4) P.length = nI ((flat P).length + S.length) := by rw [← hA, sp_same, up_same, List.length_append]
  have B19 : B 19 (32 + P.length) = nI ((xp (mpN laws) (flat P)).length + (xp (mpN laws) S).length) := by rw [← hB, sp_same, up_same, List.length_append]
  have wA : wdC x A P := by
    refine ⟨by rw [sA x (by omega)]; exact hW.1, fun l q hl' => ?_⟩
    obtain ⟨p1, p2, p3, p4⟩ := hW.2 l q hl'
    have : l < P.length := by
      apply Decidable.byContradiction
      intro z
      rw [List.getElem?_eq_none (by omega)] at hl'
      exact absurd hl' (by simp)
    refine ⟨by rw [sA (x + 2) (by omega)]; exact p1, ?_, by rw [sA (x + 5) (by omega)]; exact p3, by rw [sA (x + 3) (by omega)]; exact p4⟩
    rw [← hA, sp_same, up_ne (by omega)]; exact p2
  have vB : wdM laws B P := by
    intro l q hl'
    obtain ⟨p1, p2, p3, p4, p5⟩ := hV l q hl'
    have : l < P.length := by
      apply Decidable.byContradiction
      intro z
      rw [List.getElem?_eq_none (by omega)] at hl'
      exact absurd hl' (by simp)
    refine ⟨by rw [sB 16 (by omega)]; exact p1, by rw [sB 18 (by omega)]; exact p2, ?_, by rw [sB 20 (by omega)]; exact p4, by rw [sB 17 (by omega)]; exact p5⟩
    rw [← hB, sp_same, up_ne (by omega)]; exact p3
  rw [show fX11_isWord B 7 = _ from mdl_word mB (k := 0) (by omega)]
  -- the end, with or without a when
  have ende : ∀ (σ1 τ1 : St) (c1 : Nat) (W : Cd), c ≤ c1 → cls laws T len n x σ1 c1 (flat P ++ (S ++ W)) → mdl laws T len τ1 c1 (xp (mpN laws) (flat P) ++ xp (mpN laws) (S ++ W)) → τ1 0 34 = 0 → frP x A σ1 → frV B τ1 → (flat P ++ (S ++ W)).length ≤ c1 → (xp (mpN laws) (flat P) ++ xp (mpN laws) (S ++ W)).length ≤ c1 → (laws = false → ¬ W = []) → (¬ W = [] → tyC (nvN laws) W [] = some [true]) → (∃ σ' τ', fX4_line_116 σ1 = some (0, σ') ∧ (cb (fX11_readLine_82 τ1 (nI (32 + P.length))) fun r7 σ9 => if r7 = (-1) then some ((-1), σ9) else rec21 σ9 (nI P.length + 1)) = some (-1, τ') ∧ fltR σ' τ' ∧ frL x σ σ' ∧ frT2 τ τ') ∨ (∃ σ' τ' c' q, fX4_line_116 σ1 = some (1, σ') ∧ (cb (fX11_readLine_82 τ1 (nI (32 + P.length))) fun r7 σ9 => if r7 = (-1) then some ((-1), σ9) else rec21 σ9 (nI P.length + 1)) = rec21 τ' (nI (P.length + 1)) ∧ c < c' ∧ c' ≤ n ∧ lnS laws T len n x σ' τ' c' (P ++ [q]) ∧ frL x σ σ' ∧ frT2 τ τ') := by
    intro σ1 τ1 c1 W hcc hC1 hM1 h341 fP1 fV1 lF1 lX1 hw1 hw2
    have s1 : ∀ a, x + 2 ≤ a → a ≤ x + 5 → σ1 a = A a := fun a q1 q2 => fP1.1 a (by omega) (by omega) (by omega)
    have u1 : ∀ a, 16 ≤ a → a ≤ 20 → τ1 a = B a := fun a q1 q2 => fV1.1 a (by omega) (by omega) (by omega) (by omega)
    have w1 : wdC x σ1 P := by
      refine ⟨by rw [fP1.2.2 0 (by omega)]; exact wA.1, fun l q hl' => ?_⟩
      rw [s1 (x + 2) (by omega) (by omega), s1 (x + 3) (by omega) (by omega), s1 (x + 4) (by omega) (by omega), s1 (x + 5) (by omega) (by omega)]
      exact wA.2 l q hl'
    have v1 : wdM laws τ1 P := by
      intro l q hl'
      rw [u1 16 (by omega) (by omega), u1 17 (by omega) (by omega), u1 18 (by omega) (by omega), u1 19 (by omega) (by omega), u1 20 (by omega) (by omega)]
      exact vB l q hl'
    obtain ⟨hl4, hl3⟩ := h_laws laws
    have := line_end (rec21 := rec21) (c0 := c) (h := h) (pr := pr) (S := S) (W := W) hx hC1 hM1 h341 w1 v1 hP hok ⟨hh, hpr, fun q => hl (hl4.mp q), fun q => ⟨(hcd (hl3.mp q)).1, hw1 (hl3.mp q)⟩, hw2⟩ (by rw [s1 (x + 2) (by omega) (by omega), sA (x + 2) (by omega)]; exact e2) (fun q => by rw [s1 (x + 3) (by omega) (by omega), sA (x + 3) (by omega)]; exact e3 q) (by rw [s1 (x + 4) (by omega) (by omega)]; exact A4) (by rw [u1 16 (by omega) (by omega), sB 16 (by omega)]; exact m16) (fun q => by rw [u1 17 (by omega) (by omega), sB 17 (by omega)]; exact m17 q) (by rw [u1 18 (by omega) (by omega), sB 18 (by omega)]; exact m18) (by rw [u1 19 (by omega) (by omega)]; exact B19) lF1 lX1
    rcases this with ⟨σ', τ', a1, a2, a3, a4, a5⟩ | ⟨σ', τ', a1, a2, a3, a4, a5, a6⟩
    · exact Or.inl ⟨σ', τ', a1, a2, a3, frL_t fA (frL_t (frL_P fP1) a4), frT2_t fB (frT2_t (frT2_V fV1) a5)⟩
    · exact Or.inr ⟨σ', τ', c1 + 1, (h, pr, S, W), a1, a2, by omega, by omega, a4, frL_t fA (frL_t (frL_P fP1) a5), frT2_t fB (frT2_t (frT2_V fV1) a6)⟩
  have h34B : B 0 34 = 0 := by rw [sB 0 (by omega)]; exact h34
  rcases take_C hx cA (k := 256) (by omega) with ⟨k256, hc, σ1, t1, t2, t3⟩ | ⟨k256, t1⟩
  · rw [show fX4_take A 256 = _ from t1, p_cb, if_neg n10, bI_t (show kd laws T len c = 256 + 0 by omega), if_neg n10]
    obtain ⟨τ1, r1, r2, r3⟩ := read1 mB
    rw [r1, p_cv]
    rcases any_both hx t2 r2 (by omega) (by omega) (by rw [r3.2.1 34 (by omega) (by omega) (by omega) (by omega)]; exact h34B) with ⟨σ', τ', d1, d2, d3, d4, d5⟩ | ⟨σ2, τ2, c', C, d1, d2, d3, d4, d5, d6, d7, d8, d9, d10, d11, d12⟩
    · rw [d1, p_cb, if_pos rfl, d2, p_cb, if_pos rfl, p_cb, if_pos rfl]
      exact Or.inl ⟨σ', τ', rfl, rfl, d3, frL_t fA (frL_P (frP_t t3 d4)), frT2_t fB (frT2_V (frV_t (frV_Q r3) d5))⟩
    · rw [d1, p_cb, if_neg n10, d2, p_cb, if_neg (show ¬ (0 : Int32) = -1 by decide)]
      exact ende σ2 τ2 c' C (by omega) (by rw [← List.append_assoc]; exact d5) (by rw [xp_app, ← List.append_assoc]; exact d6) d7 (frP_t t3 d11) (frV_t (frV_Q r3) d12) (by rw [← List.append_assoc, List.length_append]; omega) (by rw [xp_app, ← List.append_assoc, List.length_append]; omega) (fun _ => ty_nonnil d10) (fun _ => d10)
  · have lt : laws = true := by
      cases laws with
      | true => rfl
      | false => exact absurd (hcd rfl).2 k256
    rw [show fX4_take A 256 = _ from t1, p_cb, if_pos rfl, if_neg (show ¬ A 24 6 = 0 by rw [cA.2.2.1, lt]; decide), bI_f (show ¬ kd laws T len c = 256 + 0 by omega), if_pos rfl]
    exact ende A B c [] (Nat.le_refl _) (by rw [List.append_nil]; exact cA) (by rw [List.append_nil]; exact mB) h34B (frP_r _ _) (frV_r _) (by rw [List.append_nil]; exact lF) (by rw [List.append_nil]; exact lX) (fun q => by rw [lt] at q; exact absurd q (by decide)) (fun q => absurd rfl q)
theorem head_C {laws : Bool} {κ : Nat} (hk : κ < 11000) : fX10_within (nI κ - 260) (nI (hdN laws)) = bI (decide (260 ≤ κ ∧ κ < 260 + hdN laws)) := by
  have hd4 : hdN laws ≤ 4 := by cases laws <;> decide
  by_cases q : 260 ≤ κ ∧ κ < 260 + hdN laws
  · rw [decide_eq_true q, show (260 : Int32) = nI 260 from rfl, pk_sub q.1, wi_t ⟨nI_pos' (by omega), nI_lt (by omega) (by omega)⟩]; rfl
  · rw [decide_eq_false q]
    refine wi_f (fun z => q ?_)
    rw [show (260 : Int32) = nI 260 from rfl] at z
    by_cases w : 260 ≤ κ
    · rw [pk_sub w] at z
      have := (nI_ltI (by omega) (by omega)).mp z.2
      omega
    · have := pk_sneg (a := κ) (b := 260) (by omega) (by omega)
      exact absurd z.1 (by grind)
theorem line_both {laws : Bool} {T : Nat → Nat} {len n x c : Nat} {σ τ : St} {P : Pg} {rec21 : St → Int32 → Option (Int32 × St)} (hx : ctx laws T len n) (hs : lnS laws T len n x σ τ c P) (hk0 : ¬ kd laws T len c = 0) : (∃ σ' τ', fX4_line σ = some (0, σ') ∧ fX11_readText_21B rec21 τ (nI P.length) = some (-1, τ') ∧ fltR σ' τ' ∧ frL x σ σ' ∧ frT2 τ τ') ∨ (∃ σ' τ' c' q, fX4_line σ = some (1, σ') ∧ fX11_readText_21B rec21 τ (nI P.length) = rec21 τ' (nI (P.length + 1)) ∧ c < c' ∧ c' ≤ n ∧ lnS laws T len n x σ' τ' c' (P ++ [q]) ∧ frL x σ σ' ∧ frT2 τ τ') := by
  obtain ⟨hC, hM, h34, hW, hV, lF, lX, hP, hok⟩ := hs
  have x44 := fW_ge hC.1
  have n6 : n ≤ 600 := by have := hx.1; have := hx.2.1; omega
  have hd4 : hdN laws ≤ 4 := by cases laws <;> decide
  have kb := hx.2.2.2.2 c
  have k5 := hC.2.2.2.2.2.2.1
  have t5 := hM.2.2.2.2.1
  unfold fX4_line fX11_readText_21B
  rw [k5, heads_C hC, head_C kb, cls_gw hC, hW.1]
  have hc := c_lt hx hC.2.2.2.2.1 (by omega)
  rcases tk_begin t5 hM.2.1 with ⟨b1, i, b2, b3, b4⟩ | ⟨b1, b2⟩
  · rw [decide_eq_true (show 260 ≤ kd laws T len c ∧ kd laws T len c < 260 + hdN laws by omega), if_neg (show ¬ bI true = 0 by decide), b1, if_neg n10]
    by_cases p16 : P.length = 16
    · rw [if_neg (show ¬ nI P.length < 16 by rw [p16]; decide), if_pos (show nI P.length = 16 by rw [p16]; rfl)]
      obtain ⟨σ', τ', a1, a2, a3, a4, a5⟩ := both_fail 3 hx hC hM
      rw [a1, p_cb, p_zb0, a2, p_cb]
      exact Or.inl ⟨σ', τ', rfl, rfl, a3, frL_P a4, frT2_V (frV_Q a5)⟩
    have hPl : P.length < 16 := by omega
    have hd : nI (kd laws T len c) - 260 = nI i := by rw [show (260 : Int32) = nI 260 from rfl, pk_sub (by omega), show kd laws T len c - 260 = i by omega]
    rw [if_pos (show nI P.length < 16 from nI_lt (b := 16) hPl (by omega)), if_neg (show ¬ nI P.length = 16 from fun z => p16 (i4 P.length 16 (by omega) (by omega) z)), hd, show (32 : Int32) + nI P.length = nI (32 + P.length) from nI_add 32 _]
    obtain ⟨σ1, a1, a2, a3⟩ := adv_C hx hC hc
    unfold fX11_readLine
    rw [a1, p_cv, a2.2.2.1, p_wrN (by omega) (by omega), b4, p_wrN (by omega) (by omega), sp_ne (a := 0) (by omega), hM.2.2.2.2.2.1]
    generalize hB : st_put (st_put τ 16 (32 + P.length) (nI (hbN laws + i))) 18 (32 + P.length) (nI (xp (mpN laws) (flat P)).length) = B
    have mB : mdl laws T len B c (xp (mpN laws) (flat P)) := by rw [← hB]; exact mdl_p (mdl_p hM (by omega)) (by omega)
    have fB : frT2 τ B := by rw [← hB]; exact frT2_t (frT2_p (by omega) (by omega)) (frT2_p (by omega) (by omega))
    have sB : ∀ a, ¬ a = 16 → ¬ a = 18 → B a = τ a := fun a h1 h2 => by rw [← hB, sp_ne h2, sp_ne h1]
    have B16 : ∀ j, B 16 j = if j = 32 + P.length then nI (hbN laws + i) else τ 16 j := by
      intro j
      rw [← hB, sp_ne (by omega), sp_same]
      by_cases z : j = 32 + P.length
      · rw [if_pos z, z, up_same]
      · rw [if_neg z, up_ne z]
    have B18 : ∀ j, B 18 j = if j = 32 + P.length then nI (xp (mpN laws) (flat P)).length else τ 18 j := by
      intro j
      rw [← hB, sp_same, sp_ne (by omega)]
      by_cases z : j = 32 + P.length
      · rw [if_pos z, z, up_same]
      · rw [if_neg z, up_ne z]
    have vB : wdM laws B P := by
      intro l q hl'
      obtain ⟨p1, p2, p3, p4, p5⟩ := hV l q hl'
      have : l < P.length := by
        apply Decidable.byContradiction
        intro z
        rw [List.getElem?_eq_none (by omega)] at hl'
        exact absurd hl' (by simp)
      exact ⟨by rw [B16, if_neg (by omega)]; exact p1, by rw [B18, if_neg (by omega)]; exact p2, by rw [sB 19 (by omega) (by omega)]; exact p3, by rw [sB 20 (by omega) (by omega)]; exact p4, by rw [sB 17 (by omega) (by omega)]; exact p5⟩
    obtain ⟨τ1, r1, r2, r3⟩ := read1 mB
    rw [r1, p_cv, r2.2.1]
    have h341 : τ1 0 34 = 0 := by rw [r3.2.1 34 (by omega) (by omega) (by omega) (by omega), sB 0 (by omega) (by omega)]; exact h34
    have u1 : ∀ a, 16 ≤ a → a ≤ 20 → τ1 a = B a := fun a q1 q2 => r3.1 a (by omega) (by omega) (by omega)
    have v1 : wdM laws τ1 P := by
      intro l q hl'
      rw [u1 16 (by omega) (by omega), u1 17 (by omega) (by omega), u1 18 (by omega) (by omega), u1 19 (by omega) (by omega), u1 20 (by omega) (by omega)]
      exact vB l q hl'
    have s1 : ∀ a, x + 2 ≤ a → a ≤ x + 5 → σ1 a = σ a := fun a q1 q2 => a3.1 a (by omega) (by omega) (by omega)
    have w1 : wdC x σ1 P := by
      refine ⟨by rw [a3.2.2 0 (by omega)]; exact hW.1, fun l q hl' => ?_⟩
      rw [s1 (x + 2) (by omega) (by omega), s1 (x + 3) (by omega) (by omega), s1 (x + 4) (by omega) (by omega), s1 (x + 5) (by omega) (by omega)]
      exact hW.2 l q hl'
    have f1 : frL x σ σ1 := frL_P a3
    have g1 : frT2 τ τ1 := frT2_t fB (frT2_V (frV_Q r3))
    -- a line is begun
    have begin_ : ∀ (σ2 : St) (v : Int32) (c2 : Nat), cls laws T len n x σ2 c2 (flat P) → wdC x σ2 P → ∃ σ3, fX9_beginLine x σ2 (nI i) v = some σ3 ∧ cls laws T len n x σ3 c2 (flat P) ∧ wdC x σ3 P ∧ frL x σ2 σ3 ∧ σ3 (x + 2) P.length = nI i ∧ σ3 (x + 3) P.length = v := by
      intro σ2 v c2 h1 h2
      unfold fX9_beginLine
      rw [h2.1, if_neg (show ¬ (16 : Int32) ≤ nI P.length from fun q => absurd ((nI_leI (a := 16) (by omega) (by omega)).mp q) (by omega)), p_wrN hPl (by omega), sp_ne (a := x) (by omega), h2.1, p_wrN hPl (by omega)]
      refine ⟨_, rfl, cls_p (cls_p h1 (by omega)) (by omega), ⟨?_, fun l q hl' => ?_⟩, frL_t (frL_p x44 (by omega)) (frL_p x44 (by omega)), ?_, ?_⟩
      · rw [sp_ne (by omega), sp_ne (by omega)]; exact h2.1
      · obtain ⟨p1, p2, p3, p4⟩ := h2.2 l q hl'
        have : l < P.length := by
          apply Decidable.byContradiction
          intro z
          rw [List.getElem?_eq_none (by omega)] at hl'
          exact absurd hl' (by simp)
        refine ⟨?_, ?_, ?_, ?_⟩
        · rw [sp_ne (by omega), sp_same, up_ne (by omega)]; exact p1
        · rw [sp_ne (by omega), sp_ne (by omega)]; exact p2
        · rw [sp_ne (by omega), sp_ne (by omega)]; exact p3
        · intro z; rw [sp_same, up_ne (by omega), sp_ne (by omega)]; exact p4 z
      · rw [sp_ne (by omega), sp_same, up_same]
      · rw [sp_same, up_same]
    cases laws with
    | true =>
      rw [if_neg (show ¬ bI true = 0 by decide), if_neg (show ¬ bI true = 0 by decide)]
      unfold fX4_lawPart
      rw [cls_gw a2]
      obtain ⟨σ2, c1, c2, c3, c4, c5, c6⟩ := begin_ σ1 (-1) (c + 1) a2 w1
      rw [c1, p_cv]
      rcases outP_V (sum_both hx c2 r2 (by omega) (by omega)) (by omega) with ⟨σ', τ', d1, d2, d3, d4, d5⟩ | ⟨σ3, τ3, c', C, d1, d2, d3, d4, d5, d6, d7, d8, d9, d10, d11, d12⟩
      · rw [d1, p_cb, p_zb0, p_cb, if_pos rfl, d2, p_cb]
        unfold fX11_readLine_43
        rw [if_pos rfl, p_cb, if_pos rfl]
        exact Or.inl ⟨σ', τ', rfl, rfl, d3, frL_t f1 (frL_t c4 (frL_P d4)), frT2_t g1 (frT2_V d5)⟩
      · rw [d1, p_cb, p_zb1, p_cb, if_neg n10, d2, p_cb]
        have s3 : ∀ a, x + 2 ≤ a → a ≤ x + 5 → σ3 a = σ2 a := fun a q1 q2 => d11.1 a (by omega) (by omega) (by omega)
        have u3 : ∀ a, 16 ≤ a → a ≤ 20 → τ3 a = τ1 a := fun a q1 q2 => d12.1 a (by omega) (by omega) (by omega) (by omega)
        have w3 : wdC x σ3 P := by
          refine ⟨by rw [d11.2.2 0 (by omega)]; exact c3.1, fun l q hl' => ?_⟩
          rw [s3 (x + 2) (by omega) (by omega), s3 (x + 3) (by omega) (by omega), s3 (x + 4) (by omega) (by omega), s3 (x + 5) (by omega) (by omega)]
          exact c3.2 l q hl'
        have v3 : wdM true τ3 P := by
          intro l q hl'
          rw [u3 16 (by omega) (by omega), u3 17 (by omega) (by omega), u3 18 (by omega) (by omega), u3 19 (by omega) (by omega), u3 20 (by omega) (by omega)]
          exact v1 l q hl'
        have cne : ¬ C = [] := by
          rintro rfl
          exact absurd (show some ([] : List Bool) = some [false] from d10) (by decide)
        rcases line_when (rec21 := rec21) (h := i) (pr := 0) (S := C) hx d5 d6 (by rw [d7]; exact h341) w3 v3 hPl hok b2 (by omega) (fun _ => d10) (fun q => absurd q (by decide)) (by rw [s3 (x + 2) (by omega) (by omega)]; exact c5) (fun q => absurd q cne) (by rw [u3 16 (by omega) (by omega), u1 16 (by omega) (by omega), B16, if_pos rfl]) (fun q => absurd q (by decide)) (by rw [u3 18 (by omega) (by omega), u1 18 (by omega) (by omega), B18, if_pos rfl]) (by rw [List.length_append]; omega) (by rw [List.length_append]; omega) with ⟨σ', τ', e1, e2, e3, e4, e5⟩ | ⟨σ', τ', c'', q, e1, e2, e3, e4, e5, e6, e7⟩
        · exact Or.inl ⟨σ', τ', e1, e2, e3, frL_t f1 (frL_t c4 (frL_t (frL_P d11) e4)), frT2_t g1 (frT2_t (frT2_V d12) e5)⟩
        · exact Or.inr ⟨σ', τ', c'', q, e1, e2, by omega, e4, e5, frL_t f1 (frL_t c4 (frL_t (frL_P d11) e6)), frT2_t g1 (frT2_t (frT2_V d12) e7)⟩
    | false =>
      rw [if_pos (show bI false = 0 from rfl), if_pos (show bI false = 0 from rfl)]
      unfold fX4_personPart fX11_readWho
      rw [numHere hx a2]
      have kb1 := hx.2.2.2.2 (c + 1)
      rcases tk_num r2.2.2.2.2.1 with ⟨n1, m, n2, n3, n4⟩ | ⟨n1, n2⟩
      · rw [if_neg (show ¬ kd false T len (c + 1) < 1000 by omega), show kd false T len (c + 1) - 1000 = m by omega, if_neg (nI_m1 (by omega)), if_pos n1, n4]
        by_cases m4 : m < 4
        · rw [if_pos (show nI m < 4 from nI_lt (b := 4) m4 (by omega)), if_pos (show nI m ≤ 3 from nI_le (b := 3) (by omega) (by omega))]
          have hc1 : c + 1 < n := c_lt hx a2.2.2.2.2.1 (by omega)
          obtain ⟨σ2, e1, e2, e3⟩ := adv_C hx a2 hc1
          have w2 : wdC x σ2 P := by
            refine ⟨by rw [e3.2.2 0 (by omega)]; exact w1.1, fun l q hl' => ?_⟩
            rw [e3.1 (x + 2) (by omega) (by omega) (by omega), e3.1 (x + 3) (by omega) (by omega) (by omega), e3.1 (x + 4) (by omega) (by omega) (by omega), e3.1 (x + 5) (by omega) (by omega) (by omega)]
            exact w1.2 l q hl'
          obtain ⟨σ3, c1, c2, c3, c4, c5, c6⟩ := begin_ σ2 (nI m) (c + 2) e2 w2
          rw [e1, p_cv, cls_gw e2, c1, p_cv, p_cb, if_neg n10, p_wrN (by omega) (by omega)]
          have mD' : mdl false T len (st_put τ1 17 (32 + P.length) (nI m)) (c + 1) (xp (mpN false) (flat P)) := mdl_p r2 (by omega)
          obtain ⟨τ3, j1, j2, j3⟩ := read1 mD'
          rw [j1, p_cv, show fX11_isWord τ3 7 = _ from mdl_word j2 (k := 0) (by omega)]
          have g3 : frT2 τ τ3 := frT2_t g1 (frT2_t (frT2_p (p := 17) (j := 32 + P.length) (v := nI m) (by omega) (by omega)) (frT2_V (frV_Q j3)))
          have u3 : ∀ a, 16 ≤ a → a ≤ 20 → ¬ a = 17 → τ3 a = τ1 a := fun a q1 q2 q3 => by rw [j3.1 a (by omega) (by omega) (by omega), sp_ne q3]
          have u17 : ∀ j, τ3 17 j = if j = 32 + P.length then nI m else τ1 17 j := by
            intro j
            rw [j3.1 17 (by omega) (by omega) (by omega), sp_same]
            by_cases z : j = 32 + P.length
            · rw [if_pos z, z, up_same]
            · rw [if_neg z, up_ne z]
          have v3 : wdM false τ3 P := by
            intro l q hl'
            have : l < P.length := by
              apply Decidable.byContradiction
              intro z
              rw [List.getElem?_eq_none (by omega)] at hl'
              exact absurd hl' (by simp)
            obtain ⟨p1, p2, p3, p4, p5⟩ := v1 l q hl'
            exact ⟨by rw [u3 16 (by omega) (by omega) (by omega)]; exact p1, by rw [u3 18 (by omega) (by omega) (by omega)]; exact p2, by rw [u3 19 (by omega) (by omega) (by omega)]; exact p3, by rw [u3 20 (by omega) (by omega) (by omega)]; exact p4, fun z => by rw [u17, if_neg (by omega)]; exact p5 z⟩
          have fC : frL x σ σ3 := frL_t f1 (frL_t (frL_P e3) c4)
          by_cases k256 : kd false T len (c + 2) = 256
          · rw [bI_t (show kd false T len (c + 1 + 1) = 256 + 0 from k256), if_neg n10, p_cb]
            rcases line_when (rec21 := rec21) (h := i) (pr := m) (S := []) hx (by rw [List.append_nil]; exact c2) (by show mdl false T len τ3 (c + 2) (xp (mpN false) (flat P) ++ []); rw [List.append_nil]; exact j2) (by rw [j3.2.1 34 (by omega) (by omega) (by omega) (by omega), sp_ne (by omega)]; exact h341) c3 v3 hPl hok b2 m4 (fun q => absurd q (by decide)) (fun _ => ⟨rfl, k256⟩) c5 (fun _ => c6) (by rw [u3 16 (by omega) (by omega) (by omega), u1 16 (by omega) (by omega), B16, if_pos rfl]) (fun _ => by rw [u17, if_pos rfl]) (by rw [u3 18 (by omega) (by omega) (by omega), u1 18 (by omega) (by omega), B18, if_pos rfl]) (by rw [List.append_nil]; omega) (by show (xp (mpN false) (flat P) ++ []).length ≤ _; rw [List.append_nil]; omega) with ⟨σ', τ', d1, d2, d3, d4, d5⟩ | ⟨σ', τ', c'', q, d1, d2, d3, d4, d5, d6, d7⟩
            · exact Or.inl ⟨σ', τ', d1, d2, d3, frL_t fC d4, frT2_t g3 d5⟩
            · exact Or.inr ⟨σ', τ', c'', q, d1, d2, by omega, d4, d5, frL_t fC d6, frT2_t g3 d7⟩
          · rw [bI_f (show ¬ kd false T len (c + 1 + 1) = 256 + 0 from k256), if_pos rfl]
            unfold fX4_line_76 fX9_beginWhen
            rw [cls_gw c2, c3.1, if_neg (show ¬ (16 : Int32) ≤ nI P.length from fun q => absurd ((nI_leI (a := 16) (by omega) (by omega)).mp q) (by omega)), p_wrN hPl (by omega), p_cv]
            have c2' : cls false T len n x (st_put σ3 (x + 4) P.length (σ3 x 1)) (c + 2) (flat P) := cls_p c2 (by omega)
            rcases take_C hx c2' (k := 256) (by omega) with ⟨z, _⟩ | ⟨_, t1⟩
            · exact absurd z k256
            rw [show fX4_take (st_put σ3 (x + 4) P.length (σ3 x 1)) 256 = _ from t1, p_cb, if_pos rfl, if_pos (show st_put σ3 (x + 4) P.length (σ3 x 1) 24 6 = 0 by rw [c2'.2.2.1]; rfl)]
            obtain ⟨σ', τ', d1, d2, d3, d4, d5⟩ := both_fail 1 hx c2' j2
            rw [d1, p_cb, p_zb0, d2, p_cb, p_cb]
            unfold fX11_readLine_43
            rw [if_pos rfl, p_cb, if_pos rfl]
            exact Or.inl ⟨σ', τ', rfl, rfl, d3, frL_t fC (frL_t (frL_p x44 (by omega)) (frL_P d4)), frT2_t g3 (frT2_V (frV_Q d5))⟩
        · rw [if_neg (show ¬ nI m < 4 from fun q => m4 ((nI_ltI (b := 4) (by omega) (by omega)).mp q)), if_neg (show ¬ nI m ≤ 3 from fun q => absurd ((nI_leI (b := 3) (by omega) (by omega)).mp q) (by omega))]
          obtain ⟨σ', τ', d1, d2, d3, d4, d5⟩ := both_fail 2 hx a2 r2
          rw [d1, p_cb, p_zb0, p_cb, if_pos rfl, d2, p_cb, p_cb]
          unfold fX11_readLine_43
          rw [if_pos rfl, p_cb, if_pos rfl]
          exact Or.inl ⟨σ', τ', rfl, rfl, d3, frL_t f1 (frL_P d4), frT2_t g1 (frT2_V (frV_Q d5))⟩
      · rw [if_pos n2, if_pos rfl, if_neg n1]
        obtain ⟨σ', τ', d1, d2, d3, d4, d5⟩ := both_fail 1 hx a2 r2
        rw [d1, p_cb, p_zb0, p_cb, if_pos rfl, d2, p_cb, p_cb]
        unfold fX11_readLine_43
        rw [if_pos rfl, p_cb, if_pos rfl]
        exact Or.inl ⟨σ', τ', rfl, rfl, d3, frL_t f1 (frL_P d4), frT2_t g1 (frT2_V (frV_Q d5))⟩
  · rw [decide_eq_false b2, if_pos (show bI false = 0 from rfl), b1, if_pos rfl, if_neg (fun z => hk0 ((tk_end t5).mp z))]
    obtain ⟨σ', τ', d1, d2, d3, d4, d5⟩ := both_fail 1 hx hC hM
    rw [d1, p_cb, p_zb0, d2, p_cb]
    exact Or.inl ⟨σ', τ', rfl, rfl, d3, frL_P d4, frT2_V (frV_Q d5)⟩
