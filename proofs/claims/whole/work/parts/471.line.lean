/-! lines -/
def cdQ (q : Ln) : Cd := q.2.2.1 ++ q.2.2.2
def flat (P : Pg) : Cd := P.flatMap cdQ
theorem flat_snoc (P : Pg) (q : Ln) : flat (P ++ [q]) = flat P ++ cdQ q := by unfold flat; rw [List.flatMap_append]; simp
theorem cdQ_len (q : Ln) : (cdQ q).length = cdLen q := by unfold cdQ cdLen; rw [List.length_append]
theorem xpQ_len (mp : Nat → Nat) (q : Ln) : (xp mp (cdQ q)).length = xpLen mp q := by unfold cdQ xpLen; rw [xp_app, List.length_append]
theorem off_app (g : Ln → Nat) {P : Pg} {q : Ln} {l : Nat} (h : l ≤ P.length) : (((P ++ [q]).take l).map g).sum = ((P.take l).map g).sum := by rw [List.take_append_of_le_length h]
theorem off_full (g : Ln → Nat) {P : Pg} {q : Ln} : (((P ++ [q]).take (P.length + 1)).map g).sum = ((P.take P.length).map g).sum + g q := by
  rw [show (P ++ [q]).take (P.length + 1) = P ++ [q] by rw [List.take_of_length_le (by simp)], List.take_length, List.map_append]
  simp
theorem fm_len (f : Ln → Cd) : ∀ P : Pg, (P.flatMap f).length = ((P.take P.length).map fun q => (f q).length).sum := by
  intro P
  rw [List.take_length]
  induction P with
  | nil => rfl
  | cons q P ih => rw [List.flatMap_cons, List.length_append, ih]; simp
theorem fm_get (f : Ln → Cd) : ∀ (P : Pg) (l : Nat) (q : Ln) (i : Nat) (c : Nat × Nat), P[l]? = some q → (f q)[i]? = some c → (P.flatMap f)[((P.take l).map fun q => (f q).length).sum + i]? = some c := by
  intro P
  induction P with
  | nil => intro l q i c h; simp at h
  | cons p P ih =>
    intro l q i c h hc
    have hi : i < (f q).length := by
      apply Decidable.byContradiction
      intro z
      rw [List.getElem?_eq_none (by omega)] at hc
      exact absurd hc (by simp)
    rw [List.flatMap_cons]
    cases l with
    | zero =>
      have e : p = q := by simpa using h
      subst e
      rw [show ((List.take 0 (p :: P)).map fun q => (f q).length).sum + i = i by simp, List.getElem?_append_left hi]
      exact hc
    | succ l =>
      have h' : P[l]? = some q := by simpa using h
      rw [List.getElem?_append_right (by simp; omega)]
      have := ih l q i c h' hc
      rw [show ((List.take (l + 1) (p :: P)).map fun q => (f q).length).sum + i - (f p).length = ((P.take l).map fun q => (f q).length).sum + i by simp; omega]
      exact this
theorem cdOff_f (P : Pg) (l : Nat) : cdOff P l = ((P.take l).map fun q => (cdQ q).length).sum := by
  unfold cdOff; congr 2; funext q; rw [cdQ_len]
theorem xpOff_f (mp : Nat → Nat) (P : Pg) (l : Nat) : xpOff mp P l = ((P.take l).map fun q => (xp mp (cdQ q)).length).sum := by
  unfold xpOff; congr 2; funext q; rw [xpQ_len]
theorem xp_flat (mp : Nat → Nat) (P : Pg) : xp mp (flat P) = P.flatMap fun q => xp mp (cdQ q) := by
  unfold flat xp; rw [List.flatMap_assoc]
theorem flat_len (P : Pg) : (flat P).length = cdOff P P.length := by rw [cdOff_f]; exact fm_len cdQ P
theorem xflat_len (mp : Nat → Nat) (P : Pg) : (xp mp (flat P)).length = xpOff mp P P.length := by rw [xpOff_f, xp_flat]; exact fm_len _ P
/-- what is written of a text -/
def wdC (x : Nat) (σ : St) (P : Pg) : Prop := σ x 0 = nI P.length ∧ ∀ l q, P[l]? = some q → σ (x + 2) l = nI q.1 ∧ σ (x + 4) l = nI (cdOff P l + q.2.2.1.length) ∧ σ (x + 5) l = nI (cdOff P (l + 1)) ∧ (q.2.2.1 = [] → σ (x + 3) l = nI q.2.1)
def wdM (laws : Bool) (τ : St) (P : Pg) : Prop := ∀ l q, P[l]? = some q → τ 16 (32 + l) = nI (hbN laws + q.1) ∧ τ 18 (32 + l) = nI (xpOff (mpN laws) P l) ∧ τ 19 (32 + l) = nI (xpOff (mpN laws) P l + (xp (mpN laws) q.2.2.1).length) ∧ τ 20 (32 + l) = nI (xpOff (mpN laws) P (l + 1)) ∧ (laws = false → τ 17 (32 + l) = nI q.2.1)
def frL (x : Nat) (σ σ' : St) : Prop := (∀ a, ¬ a = 24 → ¬ (x ≤ a ∧ a ≤ x + 5) → σ' a = σ a) ∧ ∀ j, ¬ j = 4 → ¬ j = 5 → ¬ j = 8 → ¬ j = 9 → σ' 24 j = σ 24 j
theorem frL_r (x : Nat) (σ : St) : frL x σ σ := ⟨fun _ _ _ => rfl, fun _ _ _ _ _ => rfl⟩
theorem frL_t {x : Nat} {σ σ' σ'' : St} (h : frL x σ σ') (h' : frL x σ' σ'') : frL x σ σ'' := ⟨fun a h1 h2 => by rw [h'.1 a h1 h2, h.1 a h1 h2], fun j h1 h2 h3 h4 => by rw [h'.2 j h1 h2 h3 h4, h.2 j h1 h2 h3 h4]⟩
theorem frL_P {x : Nat} {σ σ' : St} (h : frP x σ σ') : frL x σ σ' := ⟨fun a h1 h2 => h.1 a h1 (by omega) (by omega), h.2.1⟩
theorem frL_p {x p j : Nat} {σ : St} {v : Int32} (hx : 44 ≤ x) (hp : x ≤ p ∧ p ≤ x + 5) : frL x σ (st_put σ p j v) := ⟨fun a _ h2 => sp_ne (by rintro rfl; exact h2 hp), fun j _ _ _ _ => by rw [sp_ne (by omega)]⟩
def frT2 (τ τ' : St) : Prop := (∀ a, ¬ a = 0 → ¬ (16 ≤ a ∧ a ≤ 23) → τ' a = τ a) ∧ (∀ j, ¬ (19 ≤ j ∧ j ≤ 22) → ¬ j = 33 → ¬ j = 34 → ¬ j = 36 → ¬ j = 37 → ¬ j = 38 → τ' 0 j = τ 0 j) ∧ (∀ a j, 16 ≤ a → a ≤ 20 → j < 32 → τ' a j = τ a j) ∧ ∀ a j, a = 21 ∨ a = 22 → j < 1200 → τ' a j = τ a j
theorem frT2_r (τ : St) : frT2 τ τ := ⟨fun _ _ _ => rfl, fun _ _ _ _ _ _ _ => rfl, fun _ _ _ _ _ => rfl, fun _ _ _ _ => rfl⟩
theorem frT2_t {τ τ' τ'' : St} (h : frT2 τ τ') (h' : frT2 τ' τ'') : frT2 τ τ'' := ⟨fun a h1 h2 => by rw [h'.1 a h1 h2, h.1 a h1 h2], fun j h1 h2 h3 h4 h5 h6 => by rw [h'.2.1 j h1 h2 h3 h4 h5 h6, h.2.1 j h1 h2 h3 h4 h5 h6], fun a j h1 h2 h3 => by rw [h'.2.2.1 a j h1 h2 h3, h.2.2.1 a j h1 h2 h3], fun a j h1 h2 => by rw [h'.2.2.2 a j h1 h2, h.2.2.2 a j h1 h2]⟩
theorem frT2_V {τ τ' : St} (h : frV τ τ') : frT2 τ τ' := ⟨fun a h1 h2 => h.1 a h1 (by omega) (by omega) (by omega), h.2.1, fun a j h1 h2 _ => by rw [h.1 a (by omega) (by omega) (by omega) (by omega)], h.2.2⟩
theorem frT2_p {p j : Nat} {τ : St} {v : Int32} (hp : 16 ≤ p ∧ p ≤ 20) (hj : 32 ≤ j) : frT2 τ (st_put τ p j v) := by
  refine ⟨fun a h1 h2 => sp_ne (by omega), fun i _ _ _ _ _ _ => by rw [sp_ne (by omega)], fun a i h1 h2 h3 => ?_, fun a i h1 _ => by rw [sp_ne (by omega)]⟩
  by_cases q : a = p
  · subst q; rw [sp_same, up_ne (by omega)]
  · rw [sp_ne q]
theorem cls_p {laws : Bool} {T : Nat → Nat} {len n x c p j : Nat} {σ : St} {A : Cd} {v : Int32} (h : cls laws T len n x σ c A) (hp : x + 2 ≤ p ∧ p ≤ x + 5) : cls laws T len n x (st_put σ p j v) c A := by
  obtain ⟨h1, h2, h3, h4, h5, h6, h7, h8, h9, h10, h11⟩ := h
  have := fW_ge h1
  exact ⟨h1, by rw [sp_ne (by omega)]; exact h2, by rw [sp_ne (by omega)]; exact h3, by rw [sp_ne (by omega), sp_ne (by omega)]; exact h4, h5, by rw [sp_ne (by omega)]; exact h6, by rw [sp_ne (by omega)]; exact h7, by rw [sp_ne (by omega)]; exact h8, by rw [sp_ne (by omega)]; exact h9, by rw [sp_ne (by omega)]; exact h10, by rw [sp_ne (by omega)]; exact h11⟩
theorem mdl_p {laws : Bool} {T : Nat → Nat} {len c p j : Nat} {τ : St} {X : Cd} {v : Int32} (h : mdl laws T len τ c X) (hp : 15 ≤ p ∧ p ≤ 20) : mdl laws T len (st_put τ p j v) c X := by
  obtain ⟨⟨r1, r2, r3, r4⟩, h2, h3, h4, h5, h6, h7⟩ := h
  exact ⟨⟨r1, by rw [sp_ne (by omega)]; exact r2, by rw [sp_ne (by omega)]; exact r3, by rw [sp_ne (by omega)]; exact r4⟩, by rw [sp_ne (by omega)]; exact h2, by rw [sp_ne (by omega)]; exact h3, by rw [sp_ne (by omega)]; exact h4, by rw [sp_ne (by omega)]; exact h5, by rw [sp_ne (by omega)]; exact h6, by rw [sp_ne (by omega), sp_ne (by omega)]; exact h7⟩
theorem outP_V {laws : Bool} {T : Nat → Nat} {len n x : Nat} {σ τ : St} {c : Nat} {A X : Cd} {ty : Bool} {m : Nat} {rc rm : Option (Int32 × St)} (h : outP laws T len n x σ τ c A X ty m rc rm) (hm : m ≤ 28) : (∃ σ' τ', rc = some (0, σ') ∧ rm = some (-1, τ') ∧ fltR σ' τ' ∧ frP x σ σ' ∧ frV τ τ') ∨ (∃ σ' τ' c' C, rc = some (1, σ') ∧ rm = some (0, τ') ∧ c < c' ∧ c' ≤ n ∧ cls laws T len n x σ' c' (A ++ C) ∧ mdl laws T len τ' c' (X ++ xp (mpN laws) C) ∧ τ' 0 34 = τ 0 34 ∧ C.length ≤ c' - c ∧ (xp (mpN laws) C).length ≤ c' - c ∧ tyC (nvN laws) C [] = some [ty] ∧ frP x σ σ' ∧ frV τ τ') := by
  rcases h with ⟨σ', τ', d1, d2, d3, d4, d5⟩ | ⟨σ', τ', c', C, d1, d2, d3, d4, d5, d6, d7, d8, d9, d10, d11⟩
  · exact Or.inl ⟨σ', τ', d1, d2, d3, d4, frV_Q d5⟩
  · exact Or.inr ⟨σ', τ', c', C, d1, d2, d3, d4, d5, d6, d11.2.1 34 (by omega) (by omega) (by omega) (by omega), d7, d8, d9 [] (by simpa using hm), d10, frV_Q d11⟩
/-- the state of both at the head of a line -/
def lnS (laws : Bool) (T : Nat → Nat) (len n x : Nat) (σ τ : St) (c : Nat) (P : Pg) : Prop := cls laws T len n x σ c (flat P) ∧ mdl laws T len τ c (xp (mpN laws) (flat P)) ∧ τ 0 34 = 0 ∧ wdC x σ P ∧ wdM laws τ P ∧ (flat P).length ≤ c ∧ (xp (mpN laws) (flat P)).length ≤ c ∧ P.length ≤ 16 ∧ ∀ q ∈ P, okLn (nvN laws) (hdN laws) q
/-- the end of a line: from the sign that ends it on -/
theorem line_end {laws : Bool} {T : Nat → Nat} {len n x c c0 : Nat} {σ τ : St} {P : Pg} {h pr : Nat} {S W : Cd} {rec21 : St → Int32 → Option (Int32 × St)} (hx : ctx laws T len n) (hC : cls laws T len n x σ c (flat P ++ (S ++ W))) (hM : mdl laws T len τ c (xp (mpN laws) (flat P) ++ xp (mpN laws) (S ++ W))) (h34 : τ 0 34 = 0) (hW : wdC x σ P) (hV : wdM laws τ P) (hP : P.length < 16) (hok : ∀ q ∈ P, okLn (nvN laws) (hdN laws) q) (hq : okLn (nvN laws) (hdN laws) (h, pr, S, W)) (e2 : σ (x + 2) P.length = nI h) (e3 : S = [] → σ (x + 3) P.length = nI pr) (e4 : σ (x + 4) P.length = nI ((flat P).length + S.length)) (m16 : τ 16 (32 + P.length) = nI (hbN laws + h)) (m17 : laws = false → τ 17 (32 + P.length) = nI pr) (m18 : τ 18 (32 + P.length) = nI (xp (mpN laws) (flat P)).length) (m19 : τ 19 (32 + P.length) = nI ((xp (mpN laws) (flat P)).length + (xp (mpN laws) S).length)) (lF : (flat P ++ (S ++ W)).length ≤ c) (lX : (xp (mpN laws) (flat P) ++ xp (mpN laws) (S ++ W)).length ≤ c) : (∃ σ' τ', fX4_line_116 σ = some (0, σ') ∧ (cb (fX11_readLine_82 τ (nI (32 + P.length))) fun r7 σ9 => if r7 = (-1) then some ((-1), σ9) else rec21 σ9 (nI P.length + 1)) = some (-1, τ') ∧ fltR σ' τ' ∧ frL x σ σ' ∧ frT2 τ τ') ∨ (∃ σ' τ', fX4_line_116 σ = some (1, σ') ∧ (cb (fX11_readLine_82 τ (nI (32 + P.length))) fun r7 σ9 => if r7 = (-1) then some ((-1), σ9) else rec21 σ9 (nI P.length + 1)) = rec21 τ' (nI (P.length + 1)) ∧ c < n ∧ lnS laws T len n x σ' τ' (c + 1) (P ++ [(h, pr, S, W)]) ∧ frL x σ σ' ∧ frT2 τ τ') := by
  have x44 := fW_ge hC.1
  have n6 : n ≤ 600 := by have := hx.1; have := hx.2.1; omega
  have hM1 : mdl laws T len (st_put τ 20 (32 + P.length) (τ 0 33)) c (xp (mpN laws) (flat P) ++ xp (mpN laws) (S ++ W)) := mdl_p hM (by omega)
  have fT1 : frT2 τ (st_put τ 20 (32 + P.length) (τ 0 33)) := frT2_p (by omega) (by omega)
  unfold fX4_line_116 fX11_readLine_82
  rw [p_wrN (by omega) (by omega), show fX11_isSign (st_put τ 20 (32 + P.length) (τ 0 33)) 59 = _ from mdl_sign hM1 s59]
  rcases take_C hx hC (k := 59) (by omega) with ⟨k59, hc, σ1, t1, t2, t3⟩ | ⟨k59, t1⟩
  · rw [show fX4_take σ 59 = _ from t1, p_cb, if_neg n10, cls_gw t2, bI_t k59, if_neg n10]
    obtain ⟨τ2, a1, a2, a3⟩ := read1 hM1
    rw [a1, p_cv, p_cb, if_neg (show ¬ (0 : Int32) = -1 by decide), show nI P.length + 1 = nI (P.length + 1) from (nI_succ _).symm]
    have x0 : σ1 x 0 = nI P.length := by rw [t3.2.2 0 (by omega)]; exact hW.1
    have x1 : σ1 x 1 = nI (flat P ++ (S ++ W)).length := t2.2.2.2.2.2.2.2.1
    unfold fX9_endLine
    rw [x0, if_neg (show ¬ (16 : Int32) ≤ nI P.length from fun q => absurd ((nI_leI (a := 16) (by omega) (by omega)).mp q) (by omega)), p_wrN hP (by omega), p_nmS, p_cv, sp_ne (a := x) (by omega), x0, x1, show nI P.length + 1 = nI (P.length + 1) from (nI_succ _).symm]
    generalize hB : st_put (st_put σ1 (x + 5) P.length (nI (flat P ++ (S ++ W)).length)) x 0 (nI (P.length + 1)) = B
    have bs : ∀ a, ¬ a = x → ¬ a = x + 5 → B a = σ1 a := fun a q1 q2 => by rw [← hB, sp_ne q1, sp_ne q2]
    have bx : ∀ j, ¬ j = 0 → B x j = σ1 x j := fun j hj => by rw [← hB, sp_same, up_ne hj, sp_ne (by omega)]
    have arr : ∀ a, x + 2 ≤ a → a ≤ x + 4 → B a = σ a := fun a q1 q2 => by rw [bs a (by omega) (by omega), t3.1 a (by omega) (by omega) (by omega)]
    have fq : cdQ (h, pr, S, W) = S ++ W := rfl
    have len1 : (P ++ [(h, pr, S, W)]).length = P.length + 1 := by simp
    have oc : ∀ l, l ≤ P.length → cdOff (P ++ [(h, pr, S, W)]) l = cdOff P l := fun l hl => off_app cdLen hl
    have ox : ∀ l, l ≤ P.length → xpOff (mpN laws) (P ++ [(h, pr, S, W)]) l = xpOff (mpN laws) P l := fun l hl => off_app (xpLen (mpN laws)) hl
    have ocf : cdOff (P ++ [(h, pr, S, W)]) (P.length + 1) = (flat P ++ (S ++ W)).length := by
      have := flat_len (P ++ [(h, pr, S, W)])
      rw [len1, flat_snoc, fq] at this
      exact this.symm
    have oxf : xpOff (mpN laws) (P ++ [(h, pr, S, W)]) (P.length + 1) = (xp (mpN laws) (flat P) ++ xp (mpN laws) (S ++ W)).length := by
      have := xflat_len (mpN laws) (P ++ [(h, pr, S, W)])
      rw [len1, flat_snoc, fq, xp_app] at this
      exact this.symm
    have lP : cdOff P P.length = (flat P).length := (flat_len P).symm
    have lPx : xpOff (mpN laws) P P.length = (xp (mpN laws) (flat P)).length := (xflat_len _ P).symm
    have ln : ∀ l q, (P ++ [(h, pr, S, W)])[l]? = some q → (l < P.length ∧ P[l]? = some q) ∨ (l = P.length ∧ q = (h, pr, S, W)) := by
      intro l q hh
      rcases Nat.lt_trichotomy l P.length with h1 | h1 | h1
      · exact Or.inl ⟨h1, by rwa [List.getElem?_append_left h1] at hh⟩
      · subst h1
        rw [List.getElem?_append_right (Nat.le_refl _), Nat.sub_self] at hh
        exact Or.inr ⟨rfl, by simpa using hh.symm⟩
      · rw [List.getElem?_append_right (by omega), List.getElem?_eq_none (by simp; omega)] at hh
        exact absurd hh (by simp)
    have τs : ∀ a, 16 ≤ a → a ≤ 19 → τ2 a = τ a := fun a q1 q2 => by rw [a3.1 a (by omega) (by omega) (by omega), sp_ne (by omega)]
    have τ20 : ∀ j, τ2 20 j = if j = 32 + P.length then τ 0 33 else τ 20 j := by
      intro j
      rw [a3.1 20 (by omega) (by omega) (by omega), sp_same]
      by_cases z : j = 32 + P.length
      · rw [if_pos z, z, up_same]
      · rw [if_neg z, up_ne z]
    refine Or.inr ⟨B, τ2, rfl, rfl, hc, ⟨?_, ?_, ?_, ⟨?_, ?_⟩, ?_, ?_, ?_, ?_, ?_⟩, ?_, frT2_t fT1 (frT2_V (frV_Q a3))⟩
    · obtain ⟨h1, h2, h3, h4, h5, h6, h7, h8, h9, h10, h11⟩ := t2
      rw [flat_snoc, fq]
      exact ⟨h1, by rw [bs 24 (by omega) (by omega)]; exact h2, by rw [bs 24 (by omega) (by omega)]; exact h3, by rw [bs 26 (by omega) (by omega), bs 27 (by omega) (by omega)]; exact h4, h5, by rw [bs 24 (by omega) (by omega)]; exact h6, by rw [bs 24 (by omega) (by omega)]; exact h7, by rw [bx 1 (by omega)]; exact h8, by rw [bs (x + 1) (by omega) (by omega)]; exact h9, by rw [bs 24 (by omega) (by omega)]; exact h10, by rw [bs 24 (by omega) (by omega)]; exact h11⟩
    · rw [flat_snoc, fq, xp_app]; exact a2
    · rw [a3.2.1 34 (by omega) (by omega) (by omega) (by omega), sp_ne (by omega)]; exact h34
    · rw [← hB, sp_same, up_same, len1]
    · intro l q hl
      rcases ln l q hl with ⟨g1, g2⟩ | ⟨g1, g2⟩
      · obtain ⟨p1, p2, p3, p4⟩ := hW.2 l q g2
        rw [arr (x + 2) (by omega) (by omega), arr (x + 3) (by omega) (by omega), arr (x + 4) (by omega) (by omega), oc l (by omega), oc (l + 1) (by omega)]
        refine ⟨p1, p2, ?_, p4⟩
        rw [← hB, sp_ne (by omega), sp_same, up_ne (by omega), t3.1 (x + 5) (by omega) (by omega) (by omega)]; exact p3
      · subst g1; subst g2
        rw [arr (x + 2) (by omega) (by omega), arr (x + 3) (by omega) (by omega), arr (x + 4) (by omega) (by omega), oc P.length (Nat.le_refl _), ocf, lP]
        refine ⟨e2, e4, ?_, e3⟩
        rw [← hB, sp_ne (by omega), sp_same, up_same]
    · intro l q hl
      rw [τs 16 (by omega) (by omega), τs 17 (by omega) (by omega), τs 18 (by omega) (by omega), τs 19 (by omega) (by omega), τ20]
      rcases ln l q hl with ⟨g1, g2⟩ | ⟨g1, g2⟩
      · obtain ⟨p1, p2, p3, p4, p5⟩ := hV l q g2
        rw [ox l (by omega), ox (l + 1) (by omega), if_neg (by omega)]
        exact ⟨p1, p2, p3, p4, p5⟩
      · subst g1; subst g2
        rw [ox P.length (Nat.le_refl _), oxf, lPx, if_pos rfl]
        exact ⟨m16, m18, m19, hM.2.2.2.2.2.1, m17⟩
    · rw [flat_snoc, fq]; omega
    · rw [flat_snoc, fq, xp_app]; omega
    · rw [len1]; omega
    · intro q hq'
      rcases List.mem_append.mp hq' with g | g
      · exact hok q g
      · simp at g; rw [g]; exact hq
    · refine frL_t (frL_P t3) ?_
      rw [← hB]
      exact frL_t (frL_p x44 (by omega)) (frL_p x44 (by omega))
  · rw [show fX4_take σ 59 = _ from t1, p_cb, if_pos rfl, bI_f k59, if_pos rfl]
    obtain ⟨σ', τ', a1, a2, a3, a4, a5⟩ := both_fail 1 hx hC hM1
    rw [a1, p_cb, p_zb0, a2, p_cb, p_cb, if_pos rfl]
    exact Or.inl ⟨σ', τ', rfl, rfl, a3, frL_P a4, frT2_t fT1 (frT2_V (frV_Q a5))⟩
