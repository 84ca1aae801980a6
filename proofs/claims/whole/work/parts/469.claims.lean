/-! claims in step -/
theorem ra_s (f : Nat) (τ : St) (a b : Int32) : fX11_readAny_9 (f + 1) τ a b = fX11_readAny_9B (fX11_readAny_9 f) τ a b := rfl
/-- where claims end -/
def endA (f : Nat) (τ : St) (x1 : Int32) : Option (Int32 × St) :=
  if x1 = 0 then some (0, τ) else if (fX11_isSign τ 41) = 0 then (cb (fX11_fails τ 1) fun r16 σ18 => some (r16, σ18)) else (nmS (st_put τ 0 36 ((τ 0 36) - 1)) fun σ10 => nmS (st_put σ10 0 34 ((σ10 0 34) - 1)) fun σ11 => cv (fX11_settles σ11 9) fun σ13 => cv (fX11_reads σ13) fun σ15 => fX11_readAny_9 f σ15 (x1 - 1) 0)
def mD (d : Nat) : Nat := 4 + 2 * (8 - d)
def outC (laws : Bool) (T : Nat → Nat) (len n x : Nat) (σ τ : St) (c : Nat) (A X : Cd) (S0 : List Nat) (k d p f : Nat) (rc : Option (Int32 × St)) : Prop :=
  (∃ σ' τ', rc = some (0, σ') ∧ fX11_readAny_9 f τ (nI p) 1 = some (-1, τ') ∧ fltR σ' τ' ∧ frP x σ σ' ∧ frV τ τ') ∨
  (∃ σ' τ' c' C f', rc = some (1, σ') ∧ fX11_readAny_9 f τ (nI p) 1 = fX11_readAny_9 f' τ' (nI p) 0 ∧ c < c' ∧ c' ≤ n ∧ n - c' < f' ∧ cls laws T len n x σ' c' (A ++ C) ∧ mdl laws T len τ' c' (X ++ xp (mpN laws) C ++ List.replicate k (9, 0)) ∧ pnd τ' S0 (d - k) ∧ C.length ≤ c' - c ∧ (xp (mpN laws) C).length ≤ c' - c ∧ (∀ t, t.length + mD d ≤ 28 → tyC (nvN laws) C t = some (true :: t)) ∧ frP x σ σ' ∧ frV τ τ')
/-- a claim in step, at depth d -/
def stepC (laws : Bool) (T : Nat → Nat) (len n x d : Nat) (rc : St → Int32 → Option (Int32 × St)) : Prop := ∀ (σ τ : St) (c : Nat) (A X : Cd) (S0 : List Nat) (k p f : Nat), cls laws T len n x σ c A → mdl laws T len τ c X → pnd τ (S0 ++ List.replicate k 9) d → lastNe 9 S0 → (∀ q ∈ S0, q < 1000) → k ≤ d → A.length ≤ c → X.length + (S0.length + k) ≤ c → S0.length + k ≤ 3 * d + 2 → p ≤ d → n - c < f → outC laws T len n x σ τ c A X S0 k d p f (rc σ (nI d))
def opS (o : Bool) : List Nat := if o then [11] else []
def anS (a : Bool) : List Nat := if a then [10] else []
def bN (b : Bool) : Nat := if b then 1 else 0
def flT (o a : Bool) (t : List Bool) : List Bool := (if a then [true] else []) ++ ((if o then [true] else []) ++ t)
theorem c7_s (rc : St → Int32 → Option (Int32 × St)) (f : Nat) (σ : St) (a b c d : Int32) : fX4_claims_7 rc (f + 1) σ a b c d = fX4_claims_7B rc (fX4_claims_7 rc f) σ a b c d := rfl
def outL (laws : Bool) (T : Nat → Nat) (len n x : Nat) (σ0 τ0 : St) (c0 : Nat) (A X : Cd) (S1 : List Nat) (d p : Nat) (rc rm : Option (Int32 × St)) : Prop :=
  (∃ σ' τ', rc = some (0, σ') ∧ rm = some (-1, τ') ∧ fltR σ' τ' ∧ frP x σ0 σ' ∧ frV τ0 τ') ∨
  (∃ σ' τ' c' C f', rc = some (1, σ') ∧ rm = endA f' τ' (nI p) ∧ c0 < c' ∧ c' ≤ n ∧ n - c' ≤ f' ∧ cls laws T len n x σ' c' (A ++ C) ∧ mdl laws T len τ' c' (X ++ xp (mpN laws) C) ∧ pnd τ' S1 d ∧ C.length ≤ c' - c0 ∧ (xp (mpN laws) C).length ≤ c' - c0 ∧ (∀ t, t.length + (mD d + 2) ≤ 28 → tyC (nvN laws) C t = some (true :: t)) ∧ frP x σ0 σ' ∧ frV τ0 τ')
theorem mdl_word {laws : Bool} {T : Nat → Nat} {len c k : Nat} {τ : St} {X : Cd} (h : mdl laws T len τ c X) (hk : k < 4) : fX11_isWord τ (nI (7 + k)) = bI (kd laws T len c == 256 + k) := tk_word h.2.2.2.2.1 hk
theorem lastNe_app {o q : Nat} (S : List Nat) (h : ¬ q = o) : lastNe o (S ++ [q]) := by
  intro p hp
  rcases get_snocN hp with ⟨g1, _⟩ | ⟨_, g2⟩
  · rw [List.length_append] at g1; simp at g1
  · rw [g2]; exact h
theorem xp_rep (mp : Nat → Nat) (o k : Nat) (h : 3 ≤ o) : xp mp (List.replicate k (o, 0)) = List.replicate k (moN o, 0) := by
  induction k with
  | zero => rfl
  | succ k ih => rw [List.replicate_succ, List.replicate_succ, xp_cons, ih, xp1_op h]; rfl
theorem claims_go {laws : Bool} {T : Nat → Nat} {len n x c0 d p : Nat} {σ0 τ0 : St} {A X : Cd} {S1 : List Nat} {rc : St → Int32 → Option (Int32 × St)} (hx : ctx laws T len n) (hrc : stepC laws T len n x d rc) (hd : d ≤ 8) (hA : A.length ≤ c0) (hX : X.length + S1.length ≤ c0) (hS : S1.length ≤ 3 * d) (h9 : lastNe 9 S1) (h10 : lastNe 10 S1) (h11 : lastNe 11 S1) (hSp : ∀ q ∈ S1, q < 1000) (hp : p ≤ d) : ∀ (r c f7 u f : Nat) (σ τ : St) (C : Cd) (o a : Bool), c + r = n → r < f7 → r < f → c0 ≤ c → u ≤ c → cls laws T len n x σ c (A ++ C) → mdl laws T len τ c (X ++ xp (mpN laws) C) → pnd τ (S1 ++ (opS o ++ anS a)) d → C.length + (bN o + bN a) ≤ c - c0 → (xp (mpN laws) C).length + (bN o + bN a) ≤ c - c0 → (∀ t, t.length + (mD d + 2) ≤ 28 → tyC (nvN laws) C t = some (flT o a t)) → frP x σ0 σ → frV τ0 τ → outL laws T len n x σ0 τ0 c0 A X S1 d p (fX4_claims_7 rc f7 σ (nI d) (bI o) (bI a) (nI u)) (fX11_readAny_9 f τ (nI p) 1) := by
  have n6 : n ≤ 600 := by have := hx.1; have := hx.2.1; omega
  intro r
  induction r using Nat.strongRecOn with
  | ind r ih =>
    intro c f7 u f σ τ C o a hr hf7 hf hc0 hu hC hM hP lC lX hty fP fV
    obtain ⟨f7, rfl⟩ : ∃ g, f7 = g + 1 := ⟨f7 - 1, by omega⟩
    have bo : bN o ≤ 1 := by cases o <;> decide
    have ba : bN a ≤ 1 := by cases a <;> decide
    have lo : (opS o).length = bN o := by cases o <;> rfl
    have la : (anS a).length = bN a := by cases a <;> rfl
    have lS : (S1 ++ (opS o ++ anS a)).length = S1.length + (bN o + bN a) := by rw [List.length_append, List.length_append, lo, la]
    have hS9 : lastNe 9 (S1 ++ (opS o ++ anS a)) := by
      cases o <;> cases a
      · show lastNe 9 (S1 ++ []); rw [List.append_nil]; exact h9
      · exact lastNe_app S1 (by decide)
      · exact lastNe_app S1 (by decide)
      · show lastNe 9 (S1 ++ ([11] ++ [10])); rw [← List.append_assoc]; exact lastNe_app _ (by decide)
    have hSq : ∀ q ∈ S1 ++ (opS o ++ anS a), q < 1000 := by
      intro q hq
      rcases List.mem_append.mp hq with h | h
      · exact hSp q h
      · rcases List.mem_append.mp h with h | h
        · cases o
          · exact absurd h (by simp [opS])
          · simp [opS] at h; omega
        · cases a
          · exact absurd h (by simp [anS])
          · simp [anS] at h; omega
    have cn := hC.2.2.2.2.1
    have step := hrc σ τ c (A ++ C) (X ++ xp (mpN laws) C) (S1 ++ (opS o ++ anS a)) 0 p f hC hM (by rw [List.replicate_zero, List.append_nil]; exact hP) hS9 hSq (by omega) (by rw [List.length_append]; omega) (by rw [List.length_append, lS]; omega) (by rw [lS]; omega) hp (by omega)
    rw [c7_s]; unfold fX4_claims_7B
    rw [if_neg (show ¬ (600 : Int32) < nI u from fun q => absurd ((nI_ltI (a := 600) (by omega) (by omega)).mp q) (by omega))]
    rcases step with ⟨σ', τ', d1, d2, d3, d4, d5⟩ | ⟨σ1, τ1, c1, C1, f', d1, d2, d3, d4, d5, d6, d7, d8, d9, d10, d11, d12, d13⟩
    · rw [d1, p_cb, if_pos rfl, d2]
      exact Or.inl ⟨σ', τ', rfl, rfl, d3, frP_t fP d4, frV_t fV d5⟩
    rw [d1, p_cb, if_neg n10, d2]
    rw [List.replicate_zero, List.append_nil] at d7
    rw [Nat.sub_zero] at d8
    obtain ⟨f', rfl⟩ : ∃ g, f' = g + 1 := ⟨f' - 1, by omega⟩
    have ty1 : ∀ t, t.length + (mD d + 2) ≤ 28 → tyC (nvN laws) (C ++ C1) t = some (true :: flT o a t) := by
      intro t ht
      rw [ty_app, hty t ht]
      refine d11 _ ?_
      have : (flT o a t).length ≤ t.length + 2 := by cases o <;> cases a <;> simp [flT]
      omega
    -- AND, where one is pending
    obtain ⟨σ2, τ2, C2, e1, e2, e3, e4, e5, e6, e7, e8, e9, e10⟩ : ∃ σ2 τ2 C2, (if bI a = 0 then fX4_claims_39 rc (fX4_claims_7 rc f7) σ1 (nI d) (bI o) (nI u) else gw (σ1 24 7) fun w7 => cv (fX9_add w7 σ1 10 0) fun σ9 => fX4_claims_39 rc (fX4_claims_7 rc f7) σ9 (nI d) (bI o) (nI u)) = fX4_claims_39 rc (fX4_claims_7 rc f7) σ2 (nI d) (bI o) (nI u) ∧ fX11_settles τ1 10 = some τ2 ∧ cls laws T len n x σ2 c1 (A ++ C2) ∧ mdl laws T len τ2 c1 (X ++ xp (mpN laws) C2) ∧ pnd τ2 (S1 ++ opS o) d ∧ C2.length + bN o ≤ c1 - c0 ∧ (xp (mpN laws) C2).length + bN o ≤ c1 - c0 ∧ (∀ t, t.length + (mD d + 2) ≤ 28 → tyC (nvN laws) C2 t = some (true :: flT o false t)) ∧ frP x σ0 σ2 ∧ frV τ0 τ2 := by
      have hSo : lastNe 10 (S1 ++ opS o) := by
        cases o
        · show lastNe 10 (S1 ++ []); rw [List.append_nil]; exact h10
        · exact lastNe_app S1 (by decide)
      have hSoq : ∀ q ∈ S1 ++ opS o, q < 1000 := fun q hq => hSq q (by rw [← List.append_assoc]; exact List.mem_append_left _ hq)
      have lSo : (S1 ++ opS o).length = S1.length + bN o := by rw [List.length_append, lo]
      cases a with
      | false =>
        have hP' : pnd τ1 ((S1 ++ opS o) ++ List.replicate 0 10) d := by
          have := d8
          rw [show S1 ++ (opS o ++ anS false) = S1 ++ opS o ++ List.replicate 0 10 by simp [anS]] at this
          exact this
        obtain ⟨τ2, g1, g2, g3, g4⟩ := settle (o := 10) (by omega) hSo hSoq 0 FU d τ1 _ (by rw [FU_eq]; omega) d7 hP' (by omega) (by rw [List.length_append, List.length_append]; omega) (fun q => by omega)
        refine ⟨σ1, τ2, C ++ C1, by rw [if_pos (show bI false = 0 from rfl)], g1, by rw [← List.append_assoc]; exact d6, ?_, ?_, ?_, ?_, ty1, frP_t fP d12, frV_t (frV_t fV d13) g4⟩
        · rw [List.replicate_zero, List.append_nil] at g2
          rw [xp_app, ← List.append_assoc]; exact g2
        · rw [if_neg (by decide)] at g3; exact g3
        · rw [List.length_append]; show _ + _ + bN o ≤ _; have : bN false = 0 := rfl; omega
        · rw [xp_app, List.length_append]; have : bN false = 0 := rfl; omega
      | true =>
        have bt : bN true = 1 := rfl
        have hP' : pnd τ1 ((S1 ++ opS o) ++ List.replicate 1 10) d := by
          have := d8
          rw [show S1 ++ (opS o ++ anS true) = S1 ++ opS o ++ List.replicate 1 10 by simp [anS, List.replicate]] at this
          exact this
        obtain ⟨τ2, g1, g2, g3, g4⟩ := settle (o := 10) (by omega) hSo hSoq 1 FU d τ1 _ (by rw [FU_eq]; omega) d7 hP' (by omega) (by rw [List.length_append, List.length_append]; omega) (fun q => by omega)
        obtain ⟨σ2, j1, j2, j3⟩ := add_C (o := 10) (a := 0) d6 (by rw [List.length_append, List.length_append]; omega)
        refine ⟨σ2, τ2, C ++ C1 ++ [(10, 0)], ?_, g1, by rw [← List.append_assoc, ← List.append_assoc]; exact j2, ?_, ?_, ?_, ?_, ?_, frP_t (frP_t fP d12) j3, frV_t (frV_t fV d13) g4⟩
        · rw [if_neg (show ¬ bI true = 0 by decide), cls_gw d6, show fX9_add x σ1 10 0 = _ from j1, p_cv]
        · rw [xp_snoc, xp_app, xp1_op (by omega)]
          have : X ++ (xp (mpN laws) C ++ xp (mpN laws) C1 ++ [(moN 10, 0)]) = X ++ xp (mpN laws) C ++ xp (mpN laws) C1 ++ List.replicate 1 (10, 0) := by simp [List.replicate, moN]
          rw [this]; exact g2
        · rw [if_neg (by decide)] at g3; exact g3
        · rw [List.length_append, List.length_append]; show _ + _ + 1 + bN o ≤ _; omega
        · rw [xp_snoc, xp_app, xp1_op (by omega), List.length_append, List.length_append]; show _ + _ + 1 + bN o ≤ _; omega
        · intro t ht
          have h0 := ty1 t ht
          refine ty_snoc (t' := true :: flT o true t) h0 (ty_tru (by omega) (flT o false t)) ?_
          cases o <;> simp [flT] <;> omega
    rw [e1]
    unfold fX4_claims_39
    have w9 := mdl_word d7 (k := 2) (by omega)
    have w8 := mdl_word d7 (k := 1) (by omega)
    rw [ra_s]; unfold fX11_readAny_9B
    rw [if_pos rfl, show fX11_isWord τ1 9 = _ from w9, show fX11_isWord τ1 8 = _ from w8, show fX11_settles τ1 10 = some τ2 from e2]
    rcases take_C hx e3 (k := 258) (by omega) with ⟨k258, hc1, σ3, t1, t2, t3⟩ | ⟨k258, t1⟩
    · -- and
      rw [show fX4_take σ2 258 = _ from t1, p_cb, if_neg n10, bI_t (show kd laws T len c1 = 256 + 2 by omega), if_neg n10, p_cv]
      obtain ⟨τ3, g1, g2, g3, g4⟩ := wait1 (p := 10) e4 e5 (by rw [List.length_append, lo]; omega)
      obtain ⟨τ4, j1, j2, j3⟩ := read1 g2
      rw [show fX11_waits τ2 10 = _ from g1, p_cv, j1, p_cv, show nI u + 1 = nI (u + 1) from (nI_succ _).symm]
      refine ih (n - (c1 + 1)) (by omega) (c1 + 1) f7 (u + 1) f' σ3 τ4 C2 o true (by omega) (by omega) (by omega) (by omega) (by omega) t2 j2 ?_ ?_ ?_ ?_ (frP_t e9 t3) (frV_t (frV_t e10 g4) (frV_Q j3))
      · have := pnd_Q g3 j3
        rw [List.append_assoc] at this
        exact this
      · have : bN true = 1 := rfl
        omega
      · have : bN true = 1 := rfl
        omega
      · intro t ht
        rw [e8 t ht]; cases o <;> rfl
    rw [show fX4_take σ2 258 = _ from t1, p_cb, if_pos rfl, bI_f (show ¬ kd laws T len c1 = 256 + 2 by omega), if_pos rfl]
    -- OR, where one is pending
    obtain ⟨σ3, τ3, C3, b1, b2, b3, b4, b5, b6, b7, b8, b9, b10⟩ : ∃ σ3 τ3 C3, (if bI o = 0 then fX4_claims_68 rc (fX4_claims_7 rc f7) σ2 (nI d) 0 (nI u) else gw (σ2 24 7) fun w6 => cv (fX9_add w6 σ2 11 0) fun σ8 => fX4_claims_68 rc (fX4_claims_7 rc f7) σ8 (nI d) 0 (nI u)) = fX4_claims_68 rc (fX4_claims_7 rc f7) σ3 (nI d) 0 (nI u) ∧ fX11_settles τ2 11 = some τ3 ∧ cls laws T len n x σ3 c1 (A ++ C3) ∧ mdl laws T len τ3 c1 (X ++ xp (mpN laws) C3) ∧ pnd τ3 S1 d ∧ C3.length ≤ c1 - c0 ∧ (xp (mpN laws) C3).length ≤ c1 - c0 ∧ (∀ t, t.length + (mD d + 2) ≤ 28 → tyC (nvN laws) C3 t = some (true :: t)) ∧ frP x σ0 σ3 ∧ frV τ0 τ3 := by
      cases o with
      | false =>
        have hP' : pnd τ2 (S1 ++ List.replicate 0 11) d := e5
        have bf : bN false = 0 := rfl
        obtain ⟨τ3, g1, g2, g3, g4⟩ := settle (o := 11) (by omega) h11 hSp 0 FU d τ2 _ (by rw [FU_eq]; omega) e4 hP' (by omega) (by rw [List.length_append]; omega) (fun q => by omega)
        refine ⟨σ2, τ3, C2, by rw [if_pos (show bI false = 0 from rfl)], g1, e3, ?_, ?_, by omega, by omega, e8, e9, frV_t e10 g4⟩
        · rw [List.replicate_zero, List.append_nil] at g2; exact g2
        · rw [if_neg (by decide)] at g3; exact g3
      | true =>
        have bt : bN true = 1 := rfl
        have hP' : pnd τ2 (S1 ++ List.replicate 1 11) d := e5
        obtain ⟨τ3, g1, g2, g3, g4⟩ := settle (o := 11) (by omega) h11 hSp 1 FU d τ2 _ (by rw [FU_eq]; omega) e4 hP' (by omega) (by rw [List.length_append]; omega) (fun q => by omega)
        obtain ⟨σ3, j1, j2, j3⟩ := add_C (o := 11) (a := 0) e3 (by rw [List.length_append]; omega)
        refine ⟨σ3, τ3, C2 ++ [(11, 0)], ?_, g1, by rw [← List.append_assoc]; exact j2, ?_, ?_, ?_, ?_, ?_, frP_t e9 j3, frV_t e10 g4⟩
        · rw [if_neg (show ¬ bI true = 0 by decide), cls_gw e3, show fX9_add x σ2 11 0 = _ from j1, p_cv]
        · rw [xp_snoc, xp1_op (by omega), ← List.append_assoc]; exact g2
        · rw [if_neg (by decide)] at g3; exact g3
        · rw [List.length_append]; show _ + 1 ≤ _; omega
        · rw [xp_snoc, xp1_op (by omega), List.length_append]; show _ + 1 ≤ _; omega
        · intro t ht
          exact ty_snoc (e8 t ht) (ty_tru (by omega) t) (by show t.length + 1 ≤ 28; omega)
    rw [b1, p_cv, p_cv, show fX11_settles τ2 11 = some τ3 from b2, p_cv, p_cv]
    unfold fX4_claims_68
    rcases take_C hx b3 (k := 257) (by omega) with ⟨k257, hc1, σ4, t1', t2, t3⟩ | ⟨k257, t1'⟩
    · -- or
      rw [show fX4_take σ3 257 = _ from t1', p_cb, if_neg n10, bI_t (show kd laws T len c1 = 256 + 1 by omega), if_neg n10]
      obtain ⟨τ4, g1, g2, g3, g4⟩ := wait1 (p := 11) b4 b5 (by omega)
      obtain ⟨τ5, j1, j2, j3⟩ := read1 g2
      rw [show fX11_waits τ3 11 = _ from g1, p_cv, j1, p_cv, show nI u + 1 = nI (u + 1) from (nI_succ _).symm]
      refine ih (n - (c1 + 1)) (by omega) (c1 + 1) f7 (u + 1) f' σ4 τ5 C3 true false (by omega) (by omega) (by omega) (by omega) (by omega) t2 j2 ?_ ?_ ?_ ?_ (frP_t b9 t3) (frV_t (frV_t b10 g4) (frV_Q j3))
      · have := pnd_Q g3 j3
        exact this
      · have : bN true = 1 := rfl
        have : bN false = 0 := rfl
        omega
      · have : bN true = 1 := rfl
        have : bN false = 0 := rfl
        omega
      · intro t ht
        rw [b8 t ht]; rfl
    rw [show fX4_take σ3 257 = _ from t1', p_cb, if_pos rfl, bI_f (show ¬ kd laws T len c1 = 256 + 1 by omega), if_pos rfl]
    exact Or.inr ⟨σ3, τ3, c1, C3, f', rfl, rfl, by omega, d4, by omega, b3, b4, b5, b6, b7, b8, b9, b10⟩
