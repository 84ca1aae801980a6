/-! claims: the class goes down, the model shifts and reduces -/
theorem s60 : sigB 60 = true := rfl
theorem s61 : sigB 61 = true := rfl
theorem s62 : sigB 62 = true := rfl
theorem s40 : sigB 40 = true := rfl
theorem s41 : sigB 41 = true := rfl
theorem s59 : sigB 59 = true := rfl
theorem sig_val {laws : Bool} {κ : Nat} {t v : Int32} (h : tokOK laws κ t v) (hs : sigB κ = true) : v = nI κ := by
  have := sig_rng hs
  rcases h with ⟨h, _⟩ | ⟨h, _⟩ | ⟨_, _, h⟩ | ⟨i, _, h, _⟩ | ⟨m, _, h, _⟩
  · omega
  · omega
  · exact h
  · omega
  · omega
def cmpC (σ : St) : Option (Int32 × St) :=
  cb (fX4_sum σ) fun r3 σ5 => if r3 = 0 then some (0, σ5) else if (σ5 24 5) < 60 then (cb (fX4_fail σ5 1) fun r1 σ3 => zb r1 (some (r1, σ3))) else if (σ5 24 5) ≤ 62 then (cv (fX4_advance σ5) fun σ10 => cb (fX4_sum σ10) fun r11 σ13 => if r11 = 0 then some (0, σ13) else gw (σ13 24 7) fun w15 => cv (fX9_add w15 σ13 ((7 + (σ5 24 5)) - 60) 0) fun σ17 => some (1, σ17)) else (cb (fX4_fail σ5 1) fun r1 σ3 => zb r1 (some (r1, σ3)))
theorem cmp_both {laws : Bool} {T : Nat → Nat} {len n x c : Nat} {σ τ : St} {A X : Cd} (hx : ctx laws T len n) (h : cls laws T len n x σ c A) (hm : mdl laws T len τ c X) (hA : A.length ≤ c) (hX : X.length ≤ c) : outP laws T len n x σ τ c A X true 4 (cmpC σ) (fX11_readCompared τ) := by
  have n6 : n ≤ 600 := by have := hx.1; have := hx.2.1; omega
  unfold cmpC fX11_readCompared
  rcases sum_both hx h hm hA hX with ⟨σ', τ', d1, d2, d3, d4, d5⟩ | ⟨σ1, τ1, c1, C1, d1, d2, d3, d4, d5, d6, d7, d8, d9, d10, d11⟩
  · rw [d1, p_cb, if_pos rfl, d2, p_cb, if_pos rfl]
    exact Or.inl ⟨σ', τ', rfl, rfl, d3, d4, d5⟩
  rw [d1, p_cb, if_neg n10, d2, p_cb, if_neg (show ¬ (0 : Int32) = -1 by decide)]
  have k5 := d5.2.2.2.2.2.2.1
  have kb := hx.2.2.2.2 c1
  have t5 := d6.2.2.2.2.1
  rw [k5, show fX11_isSign τ1 60 = _ from mdl_sign d6 s60, show fX11_isSign τ1 61 = _ from mdl_sign d6 s61, show fX11_isSign τ1 62 = _ from mdl_sign d6 s62]
  have bad : ¬ (60 ≤ kd laws T len c1 ∧ kd laws T len c1 ≤ 62) → outP laws T len n x σ τ c A X true 4 (cb (fX4_fail σ1 1) fun r1 σ3 => zb r1 (some (r1, σ3))) (cb (fX11_fails τ1 1) fun r8 σ10 => some (r8, σ10)) := by
    intro _
    obtain ⟨σ', τ', a1, a2, a3, a4, a5⟩ := both_fail 1 hx d5 d6
    rw [a1, p_cb, p_zb0, a2, p_cb]
    exact Or.inl ⟨σ', τ', rfl, rfl, a3, frP_t d10 a4, frQ_t d11 a5⟩
  by_cases q : 60 ≤ kd laws T len c1 ∧ kd laws T len c1 ≤ 62
  · rw [if_neg (show ¬ nI (kd laws T len c1) < 60 from fun z => absurd ((nI_ltI (b := 60) (by omega) (by omega)).mp z) (by omega)), if_pos (show nI (kd laws T len c1) ≤ 62 from nI_le (b := 62) q.2 (by omega))]
    have hc := c_lt hx d4 (by omega)
    obtain ⟨σ2, a1, a2, a3⟩ := adv_C hx d5 hc
    obtain ⟨τ2, b1, b2, b3⟩ := read1 d6
    have sg : sigB (kd laws T len c1) = true := by
      rcases (show kd laws T len c1 = 60 ∨ kd laws T len c1 = 61 ∨ kd laws T len c1 = 62 by omega) with e | e | e <;> rw [e] <;> rfl
    have val := sig_val t5 sg
    have op : (7 + nI (kd laws T len c1) - 60 : Int32) = nI (kd laws T len c1 - 53) := by
      rw [show (7 : Int32) = nI 7 from rfl, nI_add, show (60 : Int32) = nI 60 from rfl, pk_sub (by omega)]; congr 1; omega
    have mo : moN (kd laws T len c1 - 53) = kd laws T len c1 - 54 := by
      rcases (show kd laws T len c1 = 60 ∨ kd laws T len c1 = 61 ∨ kd laws T len c1 = 62 by omega) with e | e | e <;> rw [e] <;> rfl
    have go : outP laws T len n x σ τ c A X true 4 (cv (fX4_advance σ1) fun σ10 => cb (fX4_sum σ10) fun r11 σ13 => if r11 = 0 then some (0, σ13) else gw (σ13 24 7) fun w15 => cv (fX9_add w15 σ13 (7 + nI (kd laws T len c1) - 60) 0) fun σ17 => some (1, σ17)) (fX11_readCompared_73 τ1 (nI (moN (kd laws T len c1 - 53)))) := by
      unfold fX11_readCompared_73
      rw [a1, p_cv, b1, p_cv]
      rcases sum_both hx a2 b2 (by rw [List.length_append]; omega) (by rw [List.length_append]; omega) with ⟨σ', τ', e1, e2, e3, e4, e5⟩ | ⟨σ3, τ3, c2, C2, e1, e2, e3, e4, e5, e6, e7, e8, e9, e10, e11⟩
      · rw [e1, p_cb, if_pos rfl, e2, p_cb, if_pos rfl]
        exact Or.inl ⟨σ', τ', rfl, rfl, e3, frP_t (frP_t d10 a3) e4, frQ_t (frQ_t d11 b3) e5⟩
      · obtain ⟨σ4, g1, g2, g3⟩ := add_C (o := kd laws T len c1 - 53) (a := 0) e5 (by rw [List.length_append, List.length_append]; omega)
        obtain ⟨τ4, j1, j2, j3⟩ := emit1 (moN (kd laws T len c1 - 53)) 0 e6 (by rw [List.length_append, List.length_append]; omega)
        rw [e1, p_cb, if_neg n10, cls_gw e5, op, show (0 : Int32) = nI 0 from rfl, g1, p_cv, show nI 0 = (0 : Int32) from rfl, e2, p_cb, if_neg (show ¬ (0 : Int32) = -1 by decide), show fX11_emits τ3 (nI (moN (kd laws T len c1 - 53))) 0 = _ from j1, p_cv]
        refine Or.inr ⟨σ4, τ4, c2, C1 ++ C2 ++ [(kd laws T len c1 - 53, 0)], rfl, rfl, by omega, e4, by rw [← List.append_assoc, ← List.append_assoc]; exact g2, ?_, ?_, ?_, ?_, frP_t (frP_t (frP_t d10 a3) e10) g3, frQ_t (frQ_t (frQ_t d11 b3) e11) j3⟩
        · rw [xp_snoc, xp_app, xp1_op (by omega), ← List.append_assoc, ← List.append_assoc]; exact j2
        · rw [List.length_append, List.length_append]; show _ + _ + 1 ≤ _; omega
        · rw [xp_snoc, xp_app, xp1_op (by omega), List.length_append, List.length_append]; show _ + _ + 1 ≤ _; omega
        · intro t ht
          refine ty_snoc (t' := false :: false :: t) ?_ (ty_cmp (by omega) t) (by show t.length + 1 ≤ 28; omega)
          rw [ty_app, d9 t (by omega)]
          exact e9 (false :: t) (by show t.length + 1 + 3 ≤ 28; omega)
    have mm : (if bI (kd laws T len c1 == 60) = 0 then (if bI (kd laws T len c1 == 61) = 0 then (if bI (kd laws T len c1 == 62) = 0 then (cb (fX11_fails τ1 1) fun r8 σ10 => some (r8, σ10)) else fX11_readCompared_43 τ1) else fX11_readCompared_43 τ1) else fX11_readCompared_43 τ1) = fX11_readCompared_43 τ1 := by
      rcases (show kd laws T len c1 = 60 ∨ kd laws T len c1 = 61 ∨ kd laws T len c1 = 62 by omega) with e | e | e <;> rw [e] <;> rfl
    rw [mm]
    have m43 : fX11_readCompared_43 τ1 = fX11_readCompared_73 τ1 (nI (moN (kd laws T len c1 - 53))) := by
      unfold fX11_readCompared_43
      rw [val]
      rcases (show kd laws T len c1 = 60 ∨ kd laws T len c1 = 61 ∨ kd laws T len c1 = 62 by omega) with e | e | e
      · rw [e, if_pos (show nI 60 = 60 from rfl)]; rfl
      · rw [e, if_neg (show ¬ nI 61 = 60 by decide), if_pos (show nI 61 = 61 from rfl)]; rfl
      · rw [e, if_neg (show ¬ nI 62 = 60 by decide), if_neg (show ¬ nI 62 = 61 by decide)]; rfl
    rw [m43]
    exact go
  · rw [bI_f (show ¬ kd laws T len c1 = 60 by omega), bI_f (show ¬ kd laws T len c1 = 61 by omega), bI_f (show ¬ kd laws T len c1 = 62 by omega), if_pos rfl, if_pos rfl, if_pos rfl]
    by_cases w : kd laws T len c1 < 60
    · rw [if_pos (show nI (kd laws T len c1) < 60 from nI_lt (b := 60) w (by omega))]
      exact bad q
    · rw [if_neg (show ¬ nI (kd laws T len c1) < 60 from fun z => w ((nI_ltI (b := 60) (by omega) (by omega)).mp z)), if_neg (show ¬ nI (kd laws T len c1) ≤ 62 from fun z => absurd ((nI_leI (b := 62) (by omega) (by omega)).mp z) (by omega))]
      exact bad q
/-! the model's pending words -/
def pnd (τ : St) (S : List Nat) (d : Nat) : Prop := τ 0 36 = nI S.length ∧ (∀ i p, S[i]? = some p → τ 23 i = nI p) ∧ τ 0 34 = nI d
def frV (τ τ' : St) : Prop := (∀ a, ¬ a = 0 → ¬ a = 21 → ¬ a = 22 → ¬ a = 23 → τ' a = τ a) ∧ (∀ j, ¬ (19 ≤ j ∧ j ≤ 22) → ¬ j = 33 → ¬ j = 34 → ¬ j = 36 → ¬ j = 37 → ¬ j = 38 → τ' 0 j = τ 0 j) ∧ ∀ a j, a = 21 ∨ a = 22 → j < 1200 → τ' a j = τ a j
theorem frV_r (τ : St) : frV τ τ := ⟨fun _ _ _ _ _ => rfl, fun _ _ _ _ _ _ _ => rfl, fun _ _ _ _ => rfl⟩
theorem frV_t {τ τ' τ'' : St} (h : frV τ τ') (h' : frV τ' τ'') : frV τ τ'' := ⟨fun a h1 h2 h3 h4 => by rw [h'.1 a h1 h2 h3 h4, h.1 a h1 h2 h3 h4], fun j h1 h2 h3 h4 h5 h6 => by rw [h'.2.1 j h1 h2 h3 h4 h5 h6, h.2.1 j h1 h2 h3 h4 h5 h6], fun a j h1 h2 => by rw [h'.2.2 a j h1 h2, h.2.2 a j h1 h2]⟩
theorem frV_Q {τ τ' : St} (h : frQ τ τ') : frV τ τ' := ⟨fun a h1 h2 h3 _ => h.1 a h1 h2 h3, fun j h1 h2 _ _ h5 h6 => h.2.1 j h1 h2 h5 h6, h.2.2⟩
theorem frV_o {τ : St} {j : Nat} {v : Int32} (hj : j = 34 ∨ j = 36) : frV τ (st_put τ 0 j v) := ⟨fun a h1 _ _ _ => sp_ne h1, fun i h1 h2 h3 h4 h5 h6 => by rw [sp_same, up_ne (by omega)], fun a i h1 _ => by rw [sp_ne (by omega)]⟩
theorem pnd_Q {τ τ' : St} {S : List Nat} {d : Nat} (h : pnd τ S d) (hq : frQ τ τ') : pnd τ' S d := by
  obtain ⟨h1, h2, h3⟩ := h
  exact ⟨by rw [hq.2.1 36 (by omega) (by omega) (by omega) (by omega)]; exact h1, by rw [hq.1 23 (by omega) (by omega) (by omega)]; exact h2, by rw [hq.2.1 34 (by omega) (by omega) (by omega) (by omega)]; exact h3⟩
theorem mdl_o {laws : Bool} {T : Nat → Nat} {len c j : Nat} {τ : St} {X : Cd} {v : Int32} (h : mdl laws T len τ c X) (hj : j = 34 ∨ j = 36) : mdl laws T len (st_put τ 0 j v) c X := by
  obtain ⟨h1, h2, h3, h4, h5, h6, h7⟩ := h
  have z : ∀ i, ¬ i = j → st_put τ 0 j v 0 i = τ 0 i := fun i hi => by rw [sp_same, up_ne hi]
  obtain ⟨r1, r2, r3, r4⟩ := h1
  exact ⟨⟨r1, by rw [z 18 (by omega)]; exact r2, by rw [sp_ne (by omega)]; exact r3, by rw [sp_ne (by omega)]; exact r4⟩, by rw [z 32 (by omega)]; exact h2, by rw [z 19 (by omega)]; exact h3, by rw [z 20 (by omega)]; exact h4, by rw [z 21 (by omega), z 22 (by omega)]; exact h5, by rw [z 33 (by omega)]; exact h6, by rw [sp_ne (by omega), sp_ne (by omega)]; exact h7⟩
theorem get_snocN {S : List Nat} {q i p : Nat} (h : (S ++ [q])[i]? = some p) : (i < S.length ∧ S[i]? = some p) ∨ (i = S.length ∧ p = q) := by
  rcases Nat.lt_trichotomy i S.length with h1 | h1 | h1
  · exact Or.inl ⟨h1, by rwa [List.getElem?_append_left h1] at h⟩
  · subst h1
    rw [List.getElem?_append_right (Nat.le_refl _), Nat.sub_self] at h
    exact Or.inr ⟨rfl, by simpa using h.symm⟩
  · rw [List.getElem?_append_right (by omega), List.getElem?_eq_none (by simp; omega)] at h
    exact absurd h (by simp)
theorem wait1 {laws : Bool} {T : Nat → Nat} {len c d p : Nat} {τ : St} {X : Cd} {S : List Nat} (h : mdl laws T len τ c X) (hp : pnd τ S d) (hl : S.length < 40) : ∃ τ', fX11_waits τ (nI p) = some τ' ∧ mdl laws T len τ' c X ∧ pnd τ' (S ++ [p]) d ∧ frV τ τ' := by
  obtain ⟨p1, p2, p3⟩ := hp
  unfold fX11_waits
  rw [p1, p_wrN hl (by omega), p_nmS, sp_ne (a := 0) (by omega), p1, show nI S.length + 1 = nI (S.length + 1) from (nI_succ _).symm]
  have h' : mdl laws T len (st_put τ 23 S.length (nI p)) c X := by
    obtain ⟨h1, h2, h3, h4, h5, h6, h7⟩ := h
    obtain ⟨r1, r2, r3, r4⟩ := h1
    exact ⟨⟨r1, by rw [sp_ne (by omega)]; exact r2, by rw [sp_ne (by omega)]; exact r3, by rw [sp_ne (by omega)]; exact r4⟩, by rw [sp_ne (by omega)]; exact h2, by rw [sp_ne (by omega)]; exact h3, by rw [sp_ne (by omega)]; exact h4, by rw [sp_ne (by omega)]; exact h5, by rw [sp_ne (by omega)]; exact h6, by rw [sp_ne (by omega), sp_ne (by omega)]; exact h7⟩
  refine ⟨_, rfl, mdl_o h' (by omega), ⟨?_, ?_, ?_⟩, ?_⟩
  · rw [sp_same, up_same, List.length_append]; rfl
  · intro i q hq
    rw [sp_ne (by omega), sp_same]
    rcases get_snocN hq with ⟨g1, g2⟩ | ⟨g1, g2⟩
    · rw [up_ne (by omega)]; exact p2 i q g2
    · rw [g1, up_same, g2]
  · rw [sp_same, up_ne (by omega), sp_ne (by omega)]; exact p3
  · exact frV_t (τ' := st_put τ 23 S.length (nI p)) ⟨fun a _ _ _ h4 => sp_ne h4, fun j _ _ _ _ _ _ => by rw [sp_ne (by omega)], fun a j h1 _ => by rw [sp_ne (by omega)]⟩ (frV_o (by omega))
def lastNe (o : Nat) (S : List Nat) : Prop := ∀ p, S[S.length - 1]? = some p → ¬ p = o
theorem se_s (f : Nat) (τ : St) (a : Int32) : fX11_settles_0 (f + 1) τ a = fX11_settles_0B (fX11_settles_0 f) τ a := rfl
theorem pnd_pop {τ : St} {S : List Nat} {q d : Nat} (h : pnd τ (S ++ [q]) d) : pnd (st_put τ 0 36 (nI S.length)) S d := by
  obtain ⟨p1, p2, p3⟩ := h
  refine ⟨by rw [sp_same, up_same], fun i p hp => ?_, by rw [sp_same, up_ne (by omega)]; exact p3⟩
  have hi : i < S.length := by
    apply Decidable.byContradiction
    intro z
    rw [List.getElem?_eq_none (by omega)] at hp
    exact absurd hp (by simp)
  rw [sp_ne (by omega)]
  exact p2 i p (by rw [List.getElem?_append_left hi]; exact hp)
theorem settle {laws : Bool} {T : Nat → Nat} {len c o : Nat} (ho : o = 9 ∨ o = 10 ∨ o = 11) {S : List Nat} (hS : lastNe o S) (hSp : ∀ p ∈ S, p < 1000) : ∀ (k f d : Nat) (τ : St) (X : Cd), k < f → mdl laws T len τ c X → pnd τ (S ++ List.replicate k o) d → S.length + k < 40 → X.length + k ≤ 600 → (o = 9 → k ≤ d) → ∃ τ', fX11_settles_0 f τ (nI o) = some τ' ∧ mdl laws T len τ' c (X ++ List.replicate k (o, 0)) ∧ pnd τ' S (if o = 9 then d - k else d) ∧ frV τ τ' := by
  intro k
  induction k with
  | zero =>
    intro f d τ X hf h hp hl _ _
    obtain ⟨f, rfl⟩ : ∃ g, f = g + 1 := ⟨f - 1, by omega⟩
    rw [List.replicate_zero, List.append_nil] at hp
    have fin : ∃ τ', some τ = some τ' ∧ mdl laws T len τ' c (X ++ List.replicate 0 (o, 0)) ∧ pnd τ' S (if o = 9 then d - 0 else d) ∧ frV τ τ' := by
      refine ⟨τ, rfl, by rw [List.replicate_zero, List.append_nil]; exact h, ?_, frV_r _⟩
      rw [Nat.sub_zero]
      split <;> exact hp
    rw [se_s]; unfold fX11_settles_0B
    obtain ⟨p1, p2, p3⟩ := hp
    rw [p1]
    by_cases z : S.length = 0
    · rw [if_pos ((nI_le0 (by omega)).mpr z)]; exact fin
    · have e1 : nI S.length - 1 = nI (S.length - 1) := by
        have := nI_pred (S.length - 1)
        rwa [show S.length - 1 + 1 = S.length by omega] at this
      obtain ⟨p, hp'⟩ : ∃ p, S[S.length - 1]? = some p := ⟨S[S.length - 1]'(by omega), List.getElem?_eq_getElem (by omega)⟩
      have pn := hS p hp'
      have pl : p < 1000 := hSp p (List.mem_of_getElem? hp')
      rw [if_neg (fun q => z ((nI_le0 (by omega)).mp q)), e1, p_rdN (by omega) (by omega), p2 _ p hp', if_neg (fun q => pn (i4 p o (by omega) (by omega) q))]
      exact fin
  | succ k ih =>
    intro f d τ X hf h hp hl hX hk
    obtain ⟨f, rfl⟩ : ∃ g, f = g + 1 := ⟨f - 1, by omega⟩
    have e0 : S ++ List.replicate (k + 1) o = (S ++ List.replicate k o) ++ [o] := by rw [List.replicate_succ', List.append_assoc]
    rw [e0] at hp
    have L : (S ++ List.replicate k o).length = S.length + k := by rw [List.length_append, List.length_replicate]
    have hpop := pnd_pop hp
    obtain ⟨p1, p2, p3⟩ := hp
    have p1' : τ 0 36 = nI (S.length + k + 1) := by rw [p1, List.length_append, L]; rfl
    have p2' := p2 (S.length + k) o (by rw [List.getElem?_append_right (by omega), L, Nat.sub_self]; rfl)
    rw [se_s]; unfold fX11_settles_0B
    rw [p1', if_neg (fun q => absurd ((nI_le0 (by omega)).mp q) (by omega)), nI_pred, p_rdN (by omega) (by omega), p2', if_pos rfl, p_nmS]
    rw [L] at hpop
    obtain ⟨τ1, a1, a2, a3⟩ := emit1 o 0 (mdl_o (j := 36) (v := nI (S.length + k)) h (by omega)) (by omega)
    rw [show fX11_emits (st_put τ 0 36 (nI (S.length + k))) (nI o) 0 = _ from a1, p_cv]
    have hp1 := pnd_Q hpop a3
    have f1 : frV τ τ1 := frV_t (frV_o (j := 36) (v := nI (S.length + k)) (by omega)) (frV_Q a3)
    have xe : X ++ List.replicate (k + 1) (o, 0) = X ++ [(o, 0)] ++ List.replicate k (o, 0) := by rw [List.replicate_succ]; simp
    by_cases o9 : o = 9
    · subst o9
      have hk' := hk rfl
      have d34 : τ1 0 34 - 1 = nI (d - 1) := by
        rw [hp1.2.2]
        have := nI_pred (d - 1)
        rwa [show d - 1 + 1 = d by omega] at this
      rw [if_pos (show nI 9 = 9 from rfl), p_nmS, d34]
      have hp2 : pnd (st_put τ1 0 34 (nI (d - 1))) (S ++ List.replicate k 9) (d - 1) := ⟨by rw [sp_same, up_ne (by omega)]; exact hp1.1, by rw [sp_ne (by omega)]; exact hp1.2.1, by rw [sp_same, up_same]⟩
      obtain ⟨τ', b1, b2, b3, b4⟩ := ih f (d - 1) (st_put τ1 0 34 (nI (d - 1))) (X ++ [(9, 0)]) (by omega) (mdl_o a2 (by omega)) hp2 (by omega) (by rw [List.length_append]; show _ + 1 + k ≤ _; omega) (fun _ => by omega)
      refine ⟨τ', b1, by rw [xe]; exact b2, ?_, frV_t (frV_t f1 (frV_o (by omega))) b4⟩
      rw [if_pos rfl] at b3 ⊢
      rw [show d - (k + 1) = d - 1 - k by omega]; exact b3
    · rw [if_neg (show ¬ nI o = 9 from fun q => o9 (i4 o 9 (by omega) (by omega) q))]
      obtain ⟨τ', b1, b2, b3, b4⟩ := ih f d τ1 (X ++ [(o, 0)]) (by omega) a2 hp1 (by omega) (by rw [List.length_append]; show _ + 1 + k ≤ _; omega) (fun q => absurd q o9)
      refine ⟨τ', b1, by rw [xe]; exact b2, ?_, frV_t f1 b4⟩
      rw [if_neg o9] at b3 ⊢; exact b3
