/-! the two parsers at a token -/
def kd (laws : Bool) (T : Nat → Nat) (len c : Nat) : Nat := (tokN laws T len c).1
def pl (laws : Bool) (T : Nat → Nat) (len c : Nat) : Nat := (tokN laws T len c).2.1
def ctx (laws : Bool) (T : Nat → Nat) (len n : Nat) : Prop := len ≤ 600 ∧ n ≤ len ∧ (∀ j, j < n → 0 < kd laws T len j) ∧ tokN laws T len n = (0, len, len) ∧ ∀ j, kd laws T len j < 11000
theorem tok_le (laws : Bool) (T : Nat → Nat) (len : Nat) : ∀ c, (tokN laws T len c).2.2 ≤ len := by
  have nx : ∀ p, (nxT laws T len p).2.2 ≤ len := by
    intro p
    unfold nxT
    by_cases h : skp T len p < len
    · rw [if_pos h]; exact (tkE_b h).2
    · rw [if_neg h]; exact Nat.le_refl _
  intro c
  cases c with
  | zero => exact nx 0
  | succ c => exact nx _
def cls (laws : Bool) (T : Nat → Nat) (len n x : Nat) (σ : St) (c : Nat) (A : Cd) : Prop := fW x ∧ σ 24 7 = nI x ∧ σ 24 6 = bI laws ∧ (∀ j, j ≤ n → σ 26 j = nI (kd laws T len j) ∧ σ 27 j = nI (pl laws T len j)) ∧ c ≤ n ∧ σ 24 4 = nI c ∧ σ 24 5 = nI (kd laws T len c) ∧ σ x 1 = nI A.length ∧ (∀ i q, A[i]? = some q → σ (x + 1) i = nI (q.1 * 16384 + q.2)) ∧ σ 24 8 = 0 ∧ σ 24 9 = -1
def frP (x : Nat) (σ σ' : St) : Prop := (∀ a, ¬ a = 24 → ¬ a = x → ¬ a = x + 1 → σ' a = σ a) ∧ (∀ j, ¬ j = 4 → ¬ j = 5 → ¬ j = 8 → ¬ j = 9 → σ' 24 j = σ 24 j) ∧ ∀ j, ¬ j = 1 → σ' x j = σ x j
theorem frP_r (x : Nat) (σ : St) : frP x σ σ := ⟨fun _ _ _ _ => rfl, fun _ _ _ _ _ => rfl, fun _ _ => rfl⟩
theorem frP_t {x : Nat} {σ σ' σ'' : St} (h : frP x σ σ') (h' : frP x σ' σ'') : frP x σ σ'' := ⟨fun a h1 h2 h3 => by rw [h'.1 a h1 h2 h3, h.1 a h1 h2 h3], fun j h1 h2 h3 h4 => by rw [h'.2.1 j h1 h2 h3 h4, h.2.1 j h1 h2 h3 h4], fun j hj => by rw [h'.2.2 j hj, h.2.2 j hj]⟩
theorem frP_o {x j : Nat} {σ : St} {v : Int32} (hx : fW x) (hj : j = 4 ∨ j = 5 ∨ j = 8 ∨ j = 9) : frP x σ (st_put σ 24 j v) := by
  have := fW_ge hx
  exact ⟨fun a h1 _ _ => sp_ne h1, fun i h1 h2 h3 h4 => by rw [sp_same, up_ne (by omega)], fun i _ => by rw [sp_ne (by omega)]⟩
theorem kd_lt (laws : Bool) {T : Nat → Nat} {len : Nat} (hT : ∀ j, j < len → T j < 256) : ∀ c, kd laws T len c < 11000 := by
  have nx : ∀ p, (nxT laws T len p).1 < 11000 := by
    intro p
    unfold nxT
    by_cases h : skp T len p < len
    · rw [if_pos h]; exact (tkK_b h (hT _ h)).2
    · rw [if_neg h]; show 0 < 11000; omega
  intro c
  cases c with
  | zero => exact nx 0
  | succ c => exact nx _
theorem adv_C {laws : Bool} {T : Nat → Nat} {len n x c : Nat} {σ : St} {A : Cd} (hx : ctx laws T len n) (h : cls laws T len n x σ c A) (hc : c < n) : ∃ σ', fX4_advance σ = some σ' ∧ cls laws T len n x σ' (c + 1) A ∧ frP x σ σ' := by
  obtain ⟨x1, x2, x3, x4, x5⟩ := hx
  obtain ⟨h1, h2, h3, h4, h5, h6, h7, h8, h9, h10, h11⟩ := h
  have x44 := fW_ge h1
  have kp := x3 c hc
  have kb := x5 c
  have e26 := (h4 (c + 1) (by omega)).1
  have kne : ¬ σ 24 5 = 0 := by
    rw [h7]
    intro q
    exact absurd (i4 _ 0 (by omega) (by omega) q) (by omega)
  unfold fX4_advance
  rw [if_neg kne, h6, if_neg (show ¬ (600 : Int32) ≤ nI c from fun q => absurd ((nI_leI (a := 600) (by omega) (by omega)).mp q) (by omega)), p_nmS, show nI c + 1 = nI (c + 1) from (nI_succ _).symm, show st_put σ 24 4 (nI (c + 1)) 24 4 = nI (c + 1) by rw [sp_same, up_same], p_rdN (by omega) (by omega), sp_ne (a := 26) (by omega), e26, p_nmS]
  refine ⟨_, rfl, ⟨h1, ?_, ?_, ?_, by omega, ?_, ?_, ?_, ?_, ?_, ?_⟩, frP_t (frP_o h1 (by omega)) (frP_o h1 (by omega))⟩
  · rw [sp_same, up_ne (by omega), sp_same, up_ne (by omega)]; exact h2
  · rw [sp_same, up_ne (by omega), sp_same, up_ne (by omega)]; exact h3
  · intro j hj
    rw [sp_ne (by omega), sp_ne (by omega), sp_ne (by omega), sp_ne (by omega)]; exact h4 j hj
  · rw [sp_same, up_ne (by omega), sp_same, up_same]
  · rw [sp_same, up_same]
  · rw [sp_ne (by omega), sp_ne (by omega)]; exact h8
  · rw [sp_ne (by omega), sp_ne (by omega)]; exact h9
  · rw [sp_same, up_ne (by omega), sp_same, up_ne (by omega)]; exact h10
  · rw [sp_same, up_ne (by omega), sp_same, up_ne (by omega)]; exact h11
theorem kd_eq {laws : Bool} {T : Nat → Nat} {len n c k : Nat} (hx : ctx laws T len n) (hk : k < 11000) : nI (kd laws T len c) = nI k ↔ kd laws T len c = k := nI_eq (by have := hx.2.2.2.2 c; omega) (by omega)
theorem c_lt {laws : Bool} {T : Nat → Nat} {len n c : Nat} (hx : ctx laws T len n) (hc : c ≤ n) (hk : 0 < kd laws T len c) : c < n := by
  rcases Nat.lt_or_ge c n with h | h
  · exact h
  · have : c = n := by omega
    subst this
    unfold kd at hk
    rw [hx.2.2.2.1] at hk
    exact absurd (show 0 < 0 from hk) (by decide)
theorem take_C {laws : Bool} {T : Nat → Nat} {len n x c k : Nat} {σ : St} {A : Cd} (hx : ctx laws T len n) (h : cls laws T len n x σ c A) (hk : 0 < k ∧ k < 11000) : (kd laws T len c = k ∧ c < n ∧ ∃ σ', fX4_take σ (nI k) = some (1, σ') ∧ cls laws T len n x σ' (c + 1) A ∧ frP x σ σ') ∨ (¬ kd laws T len c = k ∧ fX4_take σ (nI k) = some (0, σ)) := by
  have h7 := h.2.2.2.2.2.2.1
  unfold fX4_take
  rw [h7]
  by_cases q : kd laws T len c = k
  · have hc := c_lt hx h.2.2.2.2.1 (by omega)
    obtain ⟨σ', a1, a2, a3⟩ := adv_C hx h hc
    exact Or.inl ⟨q, hc, σ', by rw [if_pos (by rw [q]), a1, p_cv], a2, a3⟩
  · exact Or.inr ⟨q, by rw [if_neg (fun z => q ((kd_eq hx hk.2).mp z))]⟩
theorem get_snoc {A : Cd} {q : Nat × Nat} {i : Nat} {p : Nat × Nat} (h : (A ++ [q])[i]? = some p) : (i < A.length ∧ A[i]? = some p) ∨ (i = A.length ∧ p = q) := by
  rcases Nat.lt_trichotomy i A.length with h1 | h1 | h1
  · exact Or.inl ⟨h1, by rwa [List.getElem?_append_left h1] at h⟩
  · subst h1
    rw [List.getElem?_append_right (Nat.le_refl _), Nat.sub_self] at h
    exact Or.inr ⟨rfl, by simpa using h.symm⟩
  · rw [List.getElem?_append_right (by omega)] at h
    have : i - A.length ≥ 1 := by omega
    rw [List.getElem?_eq_none (by simpa using this)] at h
    exact absurd h (by simp)
theorem add_C {laws : Bool} {T : Nat → Nat} {len n x c o a : Nat} {σ : St} {A : Cd} (h : cls laws T len n x σ c A) (hl : A.length < 600) : ∃ σ', fX9_add x σ (nI o) (nI a) = some σ' ∧ cls laws T len n x σ' c (A ++ [(o, a)]) ∧ frP x σ σ' := by
  obtain ⟨h1, h2, h3, h4, h5, h6, h7, h8, h9, h10, h11⟩ := h
  have x44 := fW_ge h1
  unfold fX9_add
  rw [h8, if_neg (show ¬ (600 : Int32) ≤ nI A.length from fun q => absurd ((nI_leI (a := 600) (by omega) (by omega)).mp q) (by omega)), p_wrN hl (by omega), p_nmS, sp_ne (a := x) (by omega), h8, show (16384 : Int32) = nI 16384 from rfl, pk_mul, nI_add, show nI A.length + 1 = nI (A.length + 1) from (nI_succ _).symm]
  refine ⟨_, rfl, ⟨h1, ?_, ?_, ?_, h5, ?_, ?_, ?_, ?_, ?_, ?_⟩, ?_⟩
  · rw [sp_ne (by omega), sp_ne (by omega)]; exact h2
  · rw [sp_ne (by omega), sp_ne (by omega)]; exact h3
  · intro j hj; rw [sp_ne (by omega), sp_ne (by omega), sp_ne (by omega), sp_ne (by omega)]; exact h4 j hj
  · rw [sp_ne (by omega), sp_ne (by omega)]; exact h6
  · rw [sp_ne (by omega), sp_ne (by omega)]; exact h7
  · rw [sp_same, up_same, List.length_append]; rfl
  · intro i q hq
    rw [sp_ne (by omega), sp_same]
    rcases get_snoc hq with ⟨g1, g2⟩ | ⟨g1, g2⟩
    · rw [up_ne (by omega)]; exact h9 i q g2
    · rw [g1, up_same, g2]
  · rw [sp_ne (by omega), sp_ne (by omega)]; exact h10
  · rw [sp_ne (by omega), sp_ne (by omega)]; exact h11
  · refine ⟨fun b b1 b2 b3 => by rw [sp_ne b2, sp_ne b3], fun j _ _ _ _ => by rw [sp_ne (by omega), sp_ne (by omega)], fun j hj => by rw [sp_same, up_ne hj, sp_ne (by omega)]⟩
theorem cls_gw {α : Type} {laws : Bool} {T : Nat → Nat} {len n x c : Nat} {σ : St} {A : Cd} (h : cls laws T len n x σ c A) (K : Nat → Option α) : gw (σ 24 7) K = K x := by rw [h.2.1]; exact p_gw h.1 K
theorem fail_C {laws : Bool} {T : Nat → Nat} {len n x c : Nat} {σ : St} {A : Cd} (k : Int32) (hx : ctx laws T len n) (h : cls laws T len n x σ c A) : ∃ σ', fX4_fail σ k = some (0, σ') ∧ σ' 24 8 = k ∧ σ' 24 9 = nI (pl laws T len c) ∧ frP x σ σ' := by
  obtain ⟨h1, h2, h3, h4, h5, h6, h7, h8, h9⟩ := h
  have x44 := fW_ge h1
  have := hx.1
  have := hx.2.1
  unfold fX4_fail fX4_fail_29
  rw [p_nmS, show st_put σ 24 8 k 24 4 = nI c by rw [sp_same, up_ne (by omega)]; exact h6, if_neg (show ¬ (600 : Int32) < nI c from fun q => absurd ((nI_ltI (a := 600) (by omega) (by omega)).mp q) (by omega)), p_rdN (by omega) (by omega), sp_ne (a := 27) (by omega), (h4 c h5).2, p_nmS]
  exact ⟨_, rfl, by rw [sp_same, up_ne (by omega), sp_same, up_same], by rw [sp_same, up_same], frP_t (frP_o h1 (by omega)) (frP_o h1 (by omega))⟩
/-! the model -/
def mdl (laws : Bool) (T : Nat → Nat) (len : Nat) (τ : St) (c : Nat) (X : Cd) : Prop := rdOK τ T len ∧ τ 0 32 = bI laws ∧ τ 0 19 = nI (tokN laws T len c).2.2 ∧ τ 0 20 = nI (pl laws T len c) ∧ tokOK laws (kd laws T len c) (τ 0 21) (τ 0 22) ∧ τ 0 33 = nI X.length ∧ ∀ i q, X[i]? = some q → τ 21 (1200 + i) = nI q.1 ∧ τ 22 (1200 + i) = nI q.2
def frQ (τ τ' : St) : Prop := (∀ a, ¬ a = 0 → ¬ a = 21 → ¬ a = 22 → τ' a = τ a) ∧ (∀ j, ¬ (19 ≤ j ∧ j ≤ 22) → ¬ j = 33 → ¬ j = 37 → ¬ j = 38 → τ' 0 j = τ 0 j) ∧ ∀ a j, a = 21 ∨ a = 22 → j < 1200 → τ' a j = τ a j
theorem frQ_r (τ : St) : frQ τ τ := ⟨fun _ _ _ _ => rfl, fun _ _ _ _ _ => rfl, fun _ _ _ _ => rfl⟩
theorem frQ_t {τ τ' τ'' : St} (h : frQ τ τ') (h' : frQ τ' τ'') : frQ τ τ'' := ⟨fun a h1 h2 h3 => by rw [h'.1 a h1 h2 h3, h.1 a h1 h2 h3], fun j h1 h2 h3 h4 => by rw [h'.2.1 j h1 h2 h3 h4, h.2.1 j h1 h2 h3 h4], fun a j h1 h2 => by rw [h'.2.2 a j h1 h2, h.2.2 a j h1 h2]⟩
theorem frQ_R {τ τ' : St} (h : frR τ τ') : frQ τ τ' := ⟨fun a h1 _ _ => h.1 a h1, fun j h1 _ _ _ => h.2 j h1, fun a j h1 _ => by rw [h.1 a (by omega)]⟩
theorem read1 {laws : Bool} {T : Nat → Nat} {len c : Nat} {τ : St} {X : Cd} (h : mdl laws T len τ c X) : ∃ τ', fX11_reads τ = some τ' ∧ mdl laws T len τ' (c + 1) X ∧ frQ τ τ' := by
  obtain ⟨h1, h2, h3, h4, h5, h6, h7⟩ := h
  have tl := tok_le laws T len c
  have hl := h1.1
  obtain ⟨τ', a1, a2, a3, a4, a5⟩ := reads_M laws h1 (len - (tokN laws T len c).2.2) (tokN laws T len c).2.2 FU τ (by omega) (by rw [FU_eq]; omega) (frR_r _) h3
  refine ⟨τ', a1, ⟨rdOK_f h1 a2, by rw [a2.2 32 (by omega)]; exact h2, a3, a4, a5, by rw [a2.2 33 (by omega)]; exact h6, ?_⟩, frQ_R a2⟩
  rw [a2.1 21 (by omega), a2.1 22 (by omega)]
  exact h7
theorem emit1 {laws : Bool} {T : Nat → Nat} {len c : Nat} {τ : St} {X : Cd} (o a : Nat) (h : mdl laws T len τ c X) (hl : X.length < 600) : ∃ τ', fX11_emits τ (nI o) (nI a) = some τ' ∧ mdl laws T len τ' c (X ++ [(o, a)]) ∧ frQ τ τ' := by
  obtain ⟨h1, h2, h3, h4, h5, h6, h7⟩ := h
  unfold fX11_emits
  rw [h6, show (1200 : Int32) + nI X.length = nI (1200 + X.length) from nI_add 1200 _, p_wrN (by omega) (by omega), sp_ne (a := 0) (by omega), h6, show (1200 : Int32) + nI X.length = nI (1200 + X.length) from nI_add 1200 _, p_wrN (by omega) (by omega), p_nmS, sp_ne (a := 0) (by omega), sp_ne (a := 0) (by omega), h6, show nI X.length + 1 = nI (X.length + 1) from (nI_succ _).symm]
  have z : ∀ j, ¬ j = 33 → st_put (st_put (st_put τ 21 (1200 + X.length) (nI o)) 22 (1200 + X.length) (nI a)) 0 33 (nI (X.length + 1)) 0 j = τ 0 j := fun j hj => by rw [sp_same, up_ne hj, sp_ne (by omega), sp_ne (by omega)]
  refine ⟨_, rfl, ⟨?_, ?_, ?_, ?_, ?_, ?_, ?_⟩, ?_⟩
  · obtain ⟨r1, r2, r3, r4⟩ := h1
    exact ⟨r1, by rw [z 18 (by omega)]; exact r2, by rw [sp_ne (by omega), sp_ne (by omega), sp_ne (by omega)]; exact r3, by rw [sp_ne (by omega), sp_ne (by omega), sp_ne (by omega)]; exact r4⟩
  · rw [z 32 (by omega)]; exact h2
  · rw [z 19 (by omega)]; exact h3
  · rw [z 20 (by omega)]; exact h4
  · rw [z 21 (by omega), z 22 (by omega)]; exact h5
  · rw [sp_same, up_same, List.length_append]; rfl
  · intro i q hq
    rw [sp_ne (by omega), sp_ne (a := 22) (by omega), sp_ne (a := 21) (by omega), sp_same, sp_same, sp_ne (a := 22) (by omega)]
    rcases get_snoc hq with ⟨g1, g2⟩ | ⟨g1, g2⟩
    · rw [up_ne (by omega), up_ne (by omega)]; exact h7 i q g2
    · rw [g1, up_same, up_same, g2]; exact ⟨rfl, rfl⟩
  · refine ⟨fun b b1 b2 b3 => by rw [sp_ne b1, sp_ne b3, sp_ne b2], fun j _ h2 _ _ => z j h2, fun b j hb hj => ?_⟩
    rw [sp_ne (by omega)]
    rcases hb with rfl | rfl
    · rw [sp_ne (by omega), sp_same, up_ne (by omega)]
    · rw [sp_same, up_ne (by omega), sp_ne (by omega)]
theorem fails_M {laws : Bool} {T : Nat → Nat} {len c : Nat} {τ : St} {X : Cd} (k : Int32) (h : mdl laws T len τ c X) : ∃ τ', fX11_fails τ k = some (-1, τ') ∧ τ' 0 37 = k ∧ τ' 0 38 = nI (pl laws T len c) ∧ frQ τ τ' := by
  unfold fX11_fails
  rw [p_nmS, p_nmS]
  refine ⟨_, rfl, by rw [sp_same, up_ne (by omega), sp_same, up_same], by rw [sp_same, up_same, sp_same, up_ne (by omega)]; exact h.2.2.2.1, ?_⟩
  exact ⟨fun a h1 _ _ => by rw [sp_ne h1, sp_ne h1], fun j _ _ h3 h4 => by rw [sp_same, up_ne h4, sp_same, up_ne h3], fun a j h1 _ => by rw [sp_ne (by omega), sp_ne (by omega)]⟩
def fltR (σ τ : St) : Prop := σ 24 8 = τ 0 37 ∧ σ 24 9 = τ 0 38
/-- both fail at the same token -/
theorem both_fail {laws : Bool} {T : Nat → Nat} {len n x c : Nat} {σ τ : St} {A X : Cd} (k : Int32) (hx : ctx laws T len n) (h : cls laws T len n x σ c A) (hm : mdl laws T len τ c X) : ∃ σ' τ', fX4_fail σ k = some (0, σ') ∧ fX11_fails τ k = some (-1, τ') ∧ fltR σ' τ' ∧ frP x σ σ' ∧ frQ τ τ' := by
  obtain ⟨σ', a1, a2, a3, a4⟩ := fail_C k hx h
  obtain ⟨τ', b1, b2, b3, b4⟩ := fails_M k hm
  exact ⟨σ', τ', a1, b1, ⟨by rw [a2, b2], by rw [a3, b3]⟩, a4, b4⟩
theorem numHere {laws : Bool} {T : Nat → Nat} {len n x c : Nat} {σ : St} {A : Cd} (hx : ctx laws T len n) (h : cls laws T len n x σ c A) : fX4_numberHere σ = if kd laws T len c < 1000 then -1 else nI (kd laws T len c - 1000) := by
  have kb := hx.2.2.2.2 c
  unfold fX4_numberHere
  rw [h.2.2.2.2.2.2.1]
  by_cases q : kd laws T len c < 1000
  · rw [if_pos (show nI (kd laws T len c) < 1000 from nI_lt (b := 1000) q (by omega)), if_pos q]
  · rw [if_neg (show ¬ nI (kd laws T len c) < 1000 from fun z => q ((nI_ltI (b := 1000) (by omega) (by omega)).mp z)), if_neg q, show (1000 : Int32) = nI 1000 from rfl, pk_sub (by omega)]
theorem heads_C {laws : Bool} {T : Nat → Nat} {len n x c : Nat} {σ : St} {A : Cd} (h : cls laws T len n x σ c A) : fX4_headKinds σ = nI (hdN laws) := by
  unfold fX4_headKinds
  rw [h.2.2.1]
  cases laws <;> rfl
theorem xp_snoc (mp : Nat → Nat) (C : Cd) (q : Nat × Nat) : xp mp (C ++ [q]) = xp mp C ++ xp1 mp q := by
  rw [xp_app]; unfold xp; simp
/-- a unit: a number or a word that asks -/
theorem unit_both {laws : Bool} {T : Nat → Nat} {len n x c : Nat} {σ τ : St} {A X : Cd} (hx : ctx laws T len n) (h : cls laws T len n x σ c A) (hm : mdl laws T len τ c X) (hA : A.length ≤ c) (hX : X.length ≤ c) : (∃ σ' τ', fX4_unit σ = some (0, σ') ∧ fX11_readUnit τ = some (-1, τ') ∧ fltR σ' τ' ∧ frP x σ σ' ∧ frQ τ τ') ∨ (∃ σ' τ' q, fX4_unit σ = some (1, σ') ∧ fX11_readUnit τ = some (0, τ') ∧ c < n ∧ cls laws T len n x σ' (c + 1) (A ++ [q]) ∧ mdl laws T len τ' (c + 1) (X ++ xp1 (mpN laws) q) ∧ ((q.1 = 0 ∧ q.2 ≤ 9999) ∨ (q.1 = 1 ∧ q.2 < nvN laws)) ∧ (xp1 (mpN laws) q).length = 1 ∧ frP x σ σ' ∧ frQ τ τ') := by
  have kb := hx.2.2.2.2 c
  have nl := hx.2.1
  have l6 := hx.1
  have hd4 : hdN laws ≤ 4 := by cases laws <;> decide
  have k5 := h.2.2.2.2.2.2.1
  obtain ⟨m1, m2, m3, m4, m5, m6, m7⟩ := hm
  have hm' : mdl laws T len τ c X := ⟨m1, m2, m3, m4, m5, m6, m7⟩
  unfold fX4_unit fX11_readUnit
  rw [numHere hx h, heads_C h, k5]
  have ok : ∀ (q : Nat × Nat) (o' a' : Nat), 0 < kd laws T len c → xp1 (mpN laws) q = [(o', a')] → ((q.1 = 0 ∧ q.2 ≤ 9999) ∨ (q.1 = 1 ∧ q.2 < nvN laws)) → ∃ σ' τ', (gw (σ 24 7) fun w6 => cv (fX9_add w6 σ (nI q.1) (nI q.2)) fun σ8 => fX4_unit_59 σ8) = some (1, σ') ∧ fX11_readUnit_51 τ (nI a') (nI o') = some (0, τ') ∧ c < n ∧ cls laws T len n x σ' (c + 1) (A ++ [q]) ∧ mdl laws T len τ' (c + 1) (X ++ xp1 (mpN laws) q) ∧ frP x σ σ' ∧ frQ τ τ' := by
    intro q o' a' kp hq _
    have hc := c_lt hx h.2.2.2.2.1 kp
    obtain ⟨σ1, a1, a2, a3⟩ := add_C (o := q.1) (a := q.2) h (by omega)
    obtain ⟨σ2, b1, b2, b3⟩ := adv_C hx a2 hc
    obtain ⟨τ1, c1, c2, c3⟩ := emit1 o' a' hm' (by omega)
    obtain ⟨τ2, d1, d2, d3⟩ := read1 c2
    unfold fX4_unit_59 fX11_readUnit_51
    rw [cls_gw h, a1, p_cv, b1, p_cv, c1, p_cv, d1, p_cv, hq]
    exact ⟨σ2, τ2, rfl, rfl, hc, b2, d2, frP_t a3 b3, frQ_t c3 d3⟩
  rcases tk_num m5 with ⟨n1, m, n2, n3, n4⟩ | ⟨n1, n2⟩
  · have na : fX11_isAsking τ = 0 := by
      rcases tk_ask m5 m2 with ⟨_, i, _, _, _, q⟩ | ⟨q, _⟩
      · omega
      · exact q
    have nk : ¬ kd laws T len c < 1000 := by omega
    rw [if_neg nk, if_neg (nI_m1 (by omega)), na, if_pos rfl, if_pos n1]
    obtain ⟨σ', τ', a1, a2, a3, a4, a5, a6, a7⟩ := ok (0, m) 0 m (by omega) rfl (Or.inl ⟨rfl, n2⟩)
    refine Or.inr ⟨σ', τ', (0, m), ?_, ?_, a3, a4, a5, Or.inl ⟨rfl, n2⟩, rfl, a6, a7⟩
    · rw [show kd laws T len c - 1000 = m by omega]; exact a1
    · unfold fX11_readUnit_23 fX11_readUnit_33
      rw [if_pos rfl, if_pos rfl, n4]; exact a2
  · rw [if_pos n2, if_pos rfl]
    rcases tk_ask m5 m2 with ⟨q1, i, q2, q3, q4, q5⟩ | ⟨q1, q2⟩
    · have sub : nI (kd laws T len c) - 260 - nI (hdN laws) = nI i := by
        rw [show (260 : Int32) = nI 260 from rfl, pk_sub (by omega), pk_sub (by omega)]; congr 1; omega
      rw [sub, if_neg (nI_lt0 (show i < 2147483648 by omega)), q1, if_neg n10]
      obtain ⟨σ', τ', a1, a2, a3, a4, a5, a6, a7⟩ := ok (1, i) 1 (mpN laws i) (by omega) (by unfold xp1; rw [if_neg (show ¬ (1 : Nat) = 2 by decide), if_pos rfl]) (Or.inr ⟨rfl, q2⟩)
      refine Or.inr ⟨σ', τ', (1, i), a1, ?_, a3, a4, a5, Or.inr ⟨rfl, q2⟩, rfl, a6, a7⟩
      unfold fX11_readUnit_23 fX11_readUnit_33
      rw [if_neg n10, if_neg n10, q4]; exact a2
    · have sub : nI (kd laws T len c) - 260 - nI (hdN laws) = nI (kd laws T len c) - nI (260 + hdN laws) := by
        rw [← nI_add, show (260 : Int32) = nI 260 from rfl]; grind
      rw [sub, if_pos (pk_sneg (by omega) (by omega)), q1, if_pos rfl, if_neg n1]
      obtain ⟨σ', τ', a1, a2, a3, a4, a5⟩ := both_fail 1 hx h hm'
      rw [a1, p_cb, p_zb0, a2, p_cb]
      exact Or.inl ⟨σ', τ', rfl, rfl, a3, a4, a5⟩
