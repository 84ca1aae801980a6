/-! sums, both sides in step -/
theorem ty_app (nv : Nat) : ∀ (C D : Cd) (t : List Bool), tyC nv (C ++ D) t = (tyC nv C t).bind (tyC nv D) := by
  intro C
  induction C with
  | nil => intro D t; rfl
  | cons q C ih =>
    intro D t
    show tyC nv (q :: (C ++ D)) t = _
    unfold tyC
    cases e : ty1 nv q t with
    | none => rfl
    | some t' =>
      show (if t'.length ≤ 28 then tyC nv (C ++ D) t' else none) = (if t'.length ≤ 28 then tyC nv C t' else none).bind (tyC nv D)
      by_cases h : t'.length ≤ 28
      · rw [if_pos h, if_pos h, ih]
      · rw [if_neg h, if_neg h]; rfl
theorem ty_one {nv : Nat} {q : Nat × Nat} {t t' : List Bool} (h : ty1 nv q t = some t') (hl : t'.length ≤ 28) : tyC nv [q] t = some t' := by
  unfold tyC
  rw [h]
  show (if t'.length ≤ 28 then tyC nv [] t' else none) = some t'
  rw [if_pos hl]; rfl
theorem ty_snoc {nv : Nat} {C : Cd} {q : Nat × Nat} {t t' t'' : List Bool} (h : tyC nv C t = some t') (h1 : ty1 nv q t' = some t'') (hl : t''.length ≤ 28) : tyC nv (C ++ [q]) t = some t'' := by
  rw [ty_app, h]; exact ty_one h1 hl
theorem ty_unit {nv : Nat} {q : Nat × Nat} (h : (q.1 = 0 ∧ q.2 ≤ 9999) ∨ (q.1 = 1 ∧ q.2 < nv)) (t : List Bool) : ty1 nv q t = some (false :: t) := by
  unfold ty1
  rcases h with ⟨h1, h2⟩ | ⟨h1, h2⟩
  · rw [if_pos h1, if_pos h2]
  · rw [if_neg (by omega), if_pos h1, if_pos h2]
theorem ty_part {nv m : Nat} (h : 1 ≤ m ∧ m ≤ 9999) (t : List Bool) : ty1 nv (2, m) (false :: t) = some (false :: t) := by
  unfold ty1
  rw [if_neg (show ¬ (2 : Nat) = 0 by decide), if_neg (show ¬ (2 : Nat) = 1 by decide), if_pos rfl]
  show (if 1 ≤ m ∧ m ≤ 9999 then some (false :: t) else none) = _
  rw [if_pos h]
theorem ty_bin {nv o : Nat} (h : o = 4 ∨ o = 5 ∨ o = 6) (t : List Bool) : ty1 nv (o, 0) (false :: false :: t) = some (false :: t) := by
  rcases h with rfl | rfl | rfl <;> rfl
theorem ty_cmp {nv o : Nat} (h : o = 7 ∨ o = 8 ∨ o = 9) (t : List Bool) : ty1 nv (o, 0) (false :: false :: t) = some (true :: t) := by
  rcases h with rfl | rfl | rfl <;> rfl
theorem ty_tru {nv o : Nat} (h : o = 10 ∨ o = 11) (t : List Bool) : ty1 nv (o, 0) (true :: true :: t) = some (true :: t) := by
  rcases h with rfl | rfl <;> rfl
theorem ty_not {nv : Nat} (t : List Bool) : ty1 nv (3, 0) (true :: t) = some (true :: t) := rfl
theorem xp1_op {mp : Nat → Nat} {o : Nat} (h : 3 ≤ o) : xp1 mp (o, 0) = [(moN o, 0)] := by
  unfold xp1
  rw [if_neg (show ¬ o = 2 by omega), if_neg (show ¬ o = 1 by omega)]
/-- what both come to -/
def outP (laws : Bool) (T : Nat → Nat) (len n x : Nat) (σ τ : St) (c : Nat) (A X : Cd) (ty : Bool) (m : Nat) (rc rm : Option (Int32 × St)) : Prop :=
  (∃ σ' τ', rc = some (0, σ') ∧ rm = some (-1, τ') ∧ fltR σ' τ' ∧ frP x σ σ' ∧ frQ τ τ') ∨
  (∃ σ' τ' c' C, rc = some (1, σ') ∧ rm = some (0, τ') ∧ c < c' ∧ c' ≤ n ∧ cls laws T len n x σ' c' (A ++ C) ∧ mdl laws T len τ' c' (X ++ xp (mpN laws) C) ∧ C.length ≤ c' - c ∧ (xp (mpN laws) C).length ≤ c' - c ∧ (∀ t, t.length + m ≤ 28 → tyC (nvN laws) C t = some (ty :: t)) ∧ frP x σ σ' ∧ frQ τ τ')
def pdI (o : Option Nat) : Int32 := match o with
  | none => -1
  | some k => nI k
def pdN (o : Option Nat) : Nat := match o with
  | none => 0
  | some _ => 1
def pdT (o : Option Nat) (t : List Bool) : List Bool := match o with
  | none => false :: t
  | some _ => false :: false :: t
def sumC (f6 f1 : Nat) (σ : St) (u x1 x3 : Int32) : Option (Int32 × St) :=
  cb (fX4_parts_2 f1 σ u) fun r1 σ3 => if r1 = 0 then some (0, σ3) else cb (fX4_take σ3 42) fun r5 σ7 => if r5 = 0 then (if x1 = (-1) then fX4_sum_73 (fX4_sum_6 f6) σ7 r5 x3 else gw (σ7 24 7) fun w10 => cv (fX9_add w10 σ7 x1 0) fun σ12 => fX4_sum_73 (fX4_sum_6 f6) σ12 r5 x3) else fX4_sum_6 f6 σ7 x1 r5 (x3 + 1)
def sumM (f3 f2 : Nat) (τ : St) (pd : Option Nat) : Option (Int32 × St) :=
  cb (fX11_readProduct_10 f2 τ) fun r3 σ5 => if r3 = (-1) then some ((-1), σ5) else match pd with
    | none => fX11_readSum_10 f3 σ5
    | some k => cv (fX11_emits σ5 (nI (moN k)) 0) fun σ8 => fX11_readSum_10 f3 σ8
theorem s36_C (f6 : Nat) (σ : St) (x1 x3 : Int32) : fX4_sum_36 (fX4_sum_6 f6) σ x1 x3 = sumC f6 FU σ 0 x1 x3 := rfl
theorem s6_s (f : Nat) (σ : St) (a b c : Int32) : fX4_sum_6 (f + 1) σ a b c = fX4_sum_6B (fX4_sum_6 f) σ a b c := rfl
theorem pa_s (f : Nat) (σ : St) (a : Int32) : fX4_parts_2 (f + 1) σ a = fX4_parts_2B (fX4_parts_2 f) σ a := rfl
theorem rp_s (f : Nat) (τ : St) : fX11_readProduct_10 (f + 1) τ = fX11_readProduct_10B (fX11_readProduct_10 f) τ := rfl
theorem rs_s (f : Nat) (τ : St) : fX11_readSum_10 (f + 1) τ = fX11_readSum_10B (fX11_readSum_10 f) τ := rfl
theorem s42 : sigB 42 = true := rfl
theorem s47 : sigB 47 = true := rfl
theorem s43 : sigB 43 = true := rfl
theorem s45 : sigB 45 = true := rfl
theorem bI_f {κ k : Nat} (h : ¬ κ = k) : bI (κ == k) = 0 := by rw [show (κ == k) = false by simp [h]]; rfl
theorem bI_t {κ k : Nat} (h : κ = k) : bI (κ == k) = 1 := by rw [h]; simp [bI]
theorem mdl_sign {laws : Bool} {T : Nat → Nat} {len c k : Nat} {τ : St} {X : Cd} (h : mdl laws T len τ c X) (hk : sigB k = true) : fX11_isSign τ (nI k) = bI (kd laws T len c == k) := tk_sign h.2.2.2.2.1 hk
/-- the sum goes on behind a unit -/
theorem sum_go {laws : Bool} {T : Nat → Nat} {len n x c0 : Nat} {σ0 τ0 : St} {A X : Cd} (hx : ctx laws T len n) (hA : A.length ≤ c0) (hX : X.length ≤ c0) : ∀ (r c f6 f1 f3 f2 u x3 : Nat) (σ τ : St) (C : Cd) (pd : Option Nat), c + r = n → r < f6 → r < f1 → r < f3 → r < f2 → c0 < c → u ≤ c → x3 ≤ c → cls laws T len n x σ c (A ++ C) → mdl laws T len τ c (X ++ xp (mpN laws) C) → C.length + pdN pd ≤ c - c0 → (xp (mpN laws) C).length + pdN pd ≤ c - c0 → (∀ k, pd = some k → k = 4 ∨ k = 5) → (∀ t, t.length + 3 ≤ 28 → tyC (nvN laws) C t = some (pdT pd t)) → frP x σ0 σ → frQ τ0 τ → outP laws T len n x σ0 τ0 c0 A X false 3 (sumC f6 f1 σ (nI u) (pdI pd) (nI x3)) (sumM f3 f2 τ pd) := by
  have n6 : n ≤ 600 := by have := hx.1; have := hx.2.1; omega
  intro r
  induction r using Nat.strongRecOn with
  | ind r ih =>
    intro c f6 f1 f3 f2 u x3 σ τ C pd hr h6 h1 h3 h2 hc0 hu hx3 hC hM lC lX hpd hty fP fQ
    obtain ⟨f1, rfl⟩ : ∃ g, f1 = g + 1 := ⟨f1 - 1, by omega⟩
    obtain ⟨f2, rfl⟩ : ∃ g, f2 = g + 1 := ⟨f2 - 1, by omega⟩
    have k5 := hC.2.2.2.2.2.2.1
    have kb := hx.2.2.2.2 c
    have al : (A ++ C).length ≤ c := by rw [List.length_append]; omega
    have xl : (X ++ xp (mpN laws) C).length ≤ c := by rw [List.length_append]; omega
    have i42 := mdl_sign hM s42
    have i47 := mdl_sign hM s47
    by_cases c47 : kd laws T len c = 47
    · -- a part
      have hc := c_lt hx hC.2.2.2.2.1 (by omega)
      unfold sumC sumM
      rw [pa_s, rp_s]; unfold fX4_parts_2B fX11_readProduct_10B fX11_readProduct_28
      obtain ⟨σ1, a1, a2, a3⟩ := adv_C hx hC hc
      obtain ⟨τ1, b1, b2, b3⟩ := read1 hM
      have e42 : fX11_isSign τ 42 = 0 := by rw [show fX11_isSign τ 42 = _ from i42]; exact bI_f (by omega)
      have e47 : fX11_isSign τ 47 = 1 := by rw [show fX11_isSign τ 47 = _ from i47]; exact bI_t c47
      rw [if_neg (show ¬ (600 : Int32) < nI u from fun q => absurd ((nI_ltI (a := 600) (by omega) (by omega)).mp q) (by omega)), k5, if_pos (show nI (kd laws T len c) = 47 by rw [c47]; rfl), a1, p_cv, numHere hx a2, e42, e47, if_pos rfl, if_neg n10, b1, p_cv, if_pos rfl]
      have kb1 := hx.2.2.2.2 (c + 1)
      rcases tk_num b2.2.2.2.2.1 with ⟨n1, m, n2, n3, n4⟩ | ⟨n1, n2⟩
      · have nk : ¬ kd laws T len (c + 1) < 1000 := by omega
        have hm : kd laws T len (c + 1) - 1000 = m := by omega
        rw [if_neg nk, hm, if_neg (nI_m1 (by omega)), if_pos n1]
        unfold fX11_readProduct_57
        rw [if_pos rfl, n4]
        by_cases z : m = 0
        · rw [if_pos ((nI_e0 (by omega)).mpr z), if_pos ((nI_e0 (by omega)).mpr z)]
          obtain ⟨σ', τ', d1, d2, d3, d4, d5⟩ := both_fail 2 hx a2 b2
          rw [d1, p_cb, p_zb0, d2, p_cb, p_cb, p_cb, if_pos rfl, if_pos rfl]
          exact Or.inl ⟨σ', τ', rfl, rfl, d3, frP_t (frP_t fP a3) d4, frQ_t (frQ_t fQ b3) d5⟩
        · have nz : ¬ nI m = 0 := fun q => z ((nI_e0 (by omega)).mp q)
          have hc1 : c + 1 < n := c_lt hx a2.2.2.2.2.1 (by omega)
          obtain ⟨σ2, d1, d2, d3⟩ := adv_C hx a2 hc1
          obtain ⟨σ3, e1, e2, e3⟩ := add_C (o := 2) (a := m) d2 (by omega)
          -- the model: the number, then PART
          have na : fX11_isAsking τ1 = 0 := by
            rcases tk_ask b2.2.2.2.2.1 b2.2.1 with ⟨_, i, _, _, _, q⟩ | ⟨q, _⟩
            · omega
            · exact q
          obtain ⟨τ2, g1, g2, g3⟩ := emit1 0 m b2 (by omega)
          obtain ⟨τ3, j1, j2, j3⟩ := read1 g2
          obtain ⟨τ4, l1, l2, l3⟩ := emit1 5 0 j2 (by rw [List.length_append]; simp; omega)
          have ru : fX11_readUnit τ1 = some (0, τ3) := by
            unfold fX11_readUnit
            rw [na, if_pos rfl, if_pos n1]
            unfold fX11_readUnit_23 fX11_readUnit_33 fX11_readUnit_51
            rw [if_pos rfl, if_pos rfl, n4, show (0 : Int32) = nI 0 from rfl, g1, p_cv, j1, p_cv]
          rw [if_neg nz, if_neg nz, d1, p_cv, cls_gw d2, show (2 : Int32) = nI 2 from rfl, e1, p_cv]
          unfold fX11_readProduct_74
          rw [ru, p_cb, if_neg (show ¬ (0 : Int32) = -1 by decide), if_pos rfl]
          unfold fX11_readProduct_94
          rw [show fX11_emits τ3 5 0 = _ from l1, p_cv, show nI u + 1 = nI (u + 1) from (nI_succ _).symm]
          have xe : X ++ xp (mpN laws) (C ++ [(2, m)]) = X ++ xp (mpN laws) C ++ [(0, m)] ++ [(5, 0)] := by
            rw [xp_snoc]
            show X ++ (xp (mpN laws) C ++ [(0, m), (5, 0)]) = _
            simp
          refine ih (r - 2) (by omega) (c + 2) f6 f1 f3 f2 (u + 1) x3 σ3 τ4 (C ++ [(2, m)]) pd (by omega) (by omega) (by omega) (by omega) (by omega) (by omega) (by omega) (by omega) (by rw [← List.append_assoc]; exact e2) (by rw [xe]; exact l2) ?_ ?_ hpd ?_ (frP_t (frP_t (frP_t fP a3) d3) e3) (frQ_t (frQ_t (frQ_t (frQ_t fQ b3) g3) j3) l3)
          · rw [List.length_append]; simp; omega
          · rw [xp_snoc, List.length_append]
            show (xp (mpN laws) C).length + 2 + pdN pd ≤ _
            omega
          · intro t ht
            have h0 := hty t ht
            cases pd with
            | none => exact ty_snoc h0 (ty_part ⟨by omega, n2⟩ t) (by show t.length + 1 ≤ 28; omega)
            | some k => exact ty_snoc h0 (ty_part ⟨by omega, n2⟩ (false :: t)) (by show t.length + 1 + 1 ≤ 28; omega)
      · rw [if_pos n2, if_pos rfl, if_neg n1]
        obtain ⟨σ', τ', d1, d2, d3, d4, d5⟩ := both_fail 1 hx a2 b2
        rw [d1, p_cb, p_zb0, d2, p_cb, p_cb, p_cb, if_pos rfl, if_pos rfl]
        exact Or.inl ⟨σ', τ', rfl, rfl, d3, frP_t (frP_t fP a3) d4, frQ_t (frQ_t fQ b3) d5⟩
    -- no part: the parts are done
    have pc : fX4_parts_2 (f1 + 1) σ (nI u) = some (1, σ) := by
      rw [pa_s]; unfold fX4_parts_2B
      rw [if_neg (show ¬ (600 : Int32) < nI u from fun q => absurd ((nI_ltI (a := 600) (by omega) (by omega)).mp q) (by omega)), k5, if_neg (show ¬ nI (kd laws T len c) = 47 from fun q => c47 ((kd_eq (k := 47) hx (by omega)).mp q))]
    have e47 : fX11_isSign τ 47 = 0 := by rw [show fX11_isSign τ 47 = _ from i47]; exact bI_f c47
    unfold sumC
    rw [pc, p_cb, if_neg n10]
    rcases take_C hx hC (k := 42) (by omega) with ⟨k42, hc, σ1, a1, a2, a3⟩ | ⟨k42, a1⟩
    · -- a product
      rw [show fX4_take σ 42 = _ from a1, p_cb, if_neg n10]
      obtain ⟨f6, rfl⟩ : ∃ g, f6 = g + 1 := ⟨f6 - 1, by omega⟩
      obtain ⟨τ1, b1, b2, b3⟩ := read1 hM
      have e42 : fX11_isSign τ 42 = 1 := by rw [show fX11_isSign τ 42 = _ from i42]; exact bI_t k42
      unfold sumM
      rw [s6_s, rp_s]; unfold fX4_sum_6B fX11_readProduct_10B fX11_readProduct_28 fX11_readProduct_57
      rw [e42, if_neg n10, b1, p_cv, if_neg n10, if_neg n10, show nI x3 + 1 = nI (x3 + 1) from (nI_succ _).symm, if_neg (show ¬ (600 : Int32) < nI (x3 + 1) from fun q => absurd ((nI_ltI (a := 600) (by omega) (by omega)).mp q) (by omega))]
      unfold fX11_readProduct_74
      rcases unit_both hx a2 b2 (by omega) (by omega) with ⟨σ', τ', d1, d2, d3, d4, d5⟩ | ⟨σ2, τ2, q, d1, d2, d3, d4, d5, d6, d7, d8, d9⟩
      · rw [d1, p_cb, if_pos rfl, d2, p_cb, if_pos rfl, p_cb, if_pos rfl]
        exact Or.inl ⟨σ', τ', rfl, rfl, d3, frP_t (frP_t fP a3) d4, frQ_t (frQ_t fQ b3) d5⟩
      · obtain ⟨σ3, e1, e2, e3⟩ := add_C (o := 6) (a := 0) d4 (by rw [List.length_append]; simp; omega)
        obtain ⟨τ3, g1, g2, g3⟩ := emit1 4 0 d5 (by rw [List.length_append, d7]; omega)
        rw [d1, p_cb, if_neg n10, if_neg n10, cls_gw d4, show (6 : Int32) = nI 6 from rfl, show (0 : Int32) = nI 0 from rfl, e1, p_cv, show nI 0 = (0 : Int32) from rfl, s36_C, d2, p_cb, if_neg (show ¬ (0 : Int32) = -1 by decide), if_neg n10]
        unfold fX11_readProduct_94
        rw [show fX11_emits τ2 4 0 = _ from g1, p_cv]
        have xe : X ++ xp (mpN laws) (C ++ [q] ++ [(6, 0)]) = X ++ xp (mpN laws) C ++ xp1 (mpN laws) q ++ [(4, 0)] := by
          rw [xp_snoc, xp_snoc, xp1_op (by omega)]; simp [moN]
        refine ih (r - 2) (by omega) (c + 2) f6 FU f3 f2 0 (x3 + 1) σ3 τ3 (C ++ [q] ++ [(6, 0)]) pd (by omega) (by omega) (by rw [FU_eq]; omega) (by omega) (by omega) (by omega) (by omega) (by omega) (by rw [← List.append_assoc, ← List.append_assoc]; exact e2) (by rw [xe]; exact g2) ?_ ?_ hpd ?_ (frP_t (frP_t (frP_t fP a3) d8) e3) (frQ_t (frQ_t (frQ_t fQ b3) d9) g3)
        · rw [List.length_append, List.length_append]; simp; omega
        · rw [xp_snoc, xp_snoc, List.length_append, List.length_append, d7, xp1_op (by omega)]; simp; omega
        · intro t ht
          have h0 := hty t ht
          cases pd with
          | none => exact ty_snoc (ty_snoc h0 (ty_unit d6 (false :: t)) (by show t.length + 1 + 1 ≤ 28; omega)) (ty_bin (by omega) t) (by show t.length + 1 ≤ 28; omega)
          | some k => exact ty_snoc (ty_snoc h0 (ty_unit d6 (false :: false :: t)) (by show t.length + 1 + 1 + 1 ≤ 28; omega)) (ty_bin (by omega) (false :: t)) (by show t.length + 1 + 1 ≤ 28; omega)
    · -- the product is done
      rw [show fX4_take σ 42 = _ from a1, p_cb, if_pos rfl]
      have e42 : fX11_isSign τ 42 = 0 := by rw [show fX11_isSign τ 42 = _ from i42]; exact bI_f k42
      have rp : fX11_readProduct_10 (f2 + 1) τ = some (0, τ) := by
        rw [rp_s]; unfold fX11_readProduct_10B
        rw [e42, e47, if_pos rfl, if_pos rfl]
      unfold sumM
      rw [rp, p_cb, if_neg (show ¬ (0 : Int32) = -1 by decide)]
      -- what is left to do, the operator being written
      have rest : ∀ (σ1 τ1 : St) (C1 : Cd), cls laws T len n x σ1 c (A ++ C1) → mdl laws T len τ1 c (X ++ xp (mpN laws) C1) → C1.length ≤ c - c0 → (xp (mpN laws) C1).length ≤ c - c0 → (∀ t, t.length + 3 ≤ 28 → tyC (nvN laws) C1 t = some (false :: t)) → frP x σ0 σ1 → frQ τ0 τ1 → outP laws T len n x σ0 τ0 c0 A X false 3 (fX4_sum_73 (fX4_sum_6 f6) σ1 0 (nI x3)) (fX11_readSum_10 f3 τ1) := by
        intro σ1 τ1 C1 hC1 hM1 lC1 lX1 hty1 fP1 fQ1
        obtain ⟨f3, rfl⟩ : ∃ g, f3 = g + 1 := ⟨f3 - 1, by omega⟩
        have j43 := mdl_sign hM1 s43
        have j45 := mdl_sign hM1 s45
        have k51 := hC1.2.2.2.2.2.2.1
        -- one more product
        have more : ∀ (k : Nat) (σ2 : St), k = 4 ∨ k = 5 → c < n → (kd laws T len c = 43 ∨ kd laws T len c = 45) → cls laws T len n x σ2 (c + 1) (A ++ C1) → frP x σ1 σ2 → outP laws T len n x σ0 τ0 c0 A X false 3 (fX4_sum_6 f6 σ2 (nI k) 0 (nI x3 + 1)) (fX11_readSum_42 (fX11_readSum_10 f3) τ1 (nI (moN k))) := by
          intro k σ2 hk hc _ h2 fP2
          obtain ⟨f6, rfl⟩ : ∃ g, f6 = g + 1 := ⟨f6 - 1, by omega⟩
          obtain ⟨τ2, b1, b2, b3⟩ := read1 hM1
          rw [s6_s]; unfold fX4_sum_6B fX11_readSum_42 fX11_readProduct
          rw [show nI x3 + 1 = nI (x3 + 1) from (nI_succ _).symm, if_neg (show ¬ (600 : Int32) < nI (x3 + 1) from fun q => absurd ((nI_ltI (a := 600) (by omega) (by omega)).mp q) (by omega)), b1, p_cv]
          rcases unit_both hx h2 b2 (by rw [List.length_append]; omega) (by rw [List.length_append]; omega) with ⟨σ', τ', d1, d2, d3, d4, d5⟩ | ⟨σ3, τ3, q, d1, d2, d3, d4, d5, d6, d7, d8, d9⟩
          · rw [d1, p_cb, if_pos rfl, d2, p_cb, if_pos rfl, p_cb, if_pos rfl]
            exact Or.inl ⟨σ', τ', rfl, rfl, d3, frP_t (frP_t fP1 fP2) d4, frQ_t (frQ_t fQ1 b3) d5⟩
          · rw [d1, p_cb, if_neg n10, if_pos rfl, s36_C, d2, p_cb, if_neg (show ¬ (0 : Int32) = -1 by decide)]
            refine ih (r - 2) (by omega) (c + 2) f6 FU f3 FU 0 (x3 + 1) σ3 τ3 (C1 ++ [q]) (some k) (by omega) (by omega) (by rw [FU_eq]; omega) (by omega) (by rw [FU_eq]; omega) (by omega) (by omega) (by omega) (by rw [← List.append_assoc]; exact d4) (by rw [xp_snoc, ← List.append_assoc]; exact d5) ?_ ?_ (fun k' e => by injection e with e; omega) ?_ (frP_t (frP_t fP1 fP2) d8) (frQ_t (frQ_t fQ1 b3) d9)
            · rw [List.length_append]; show C1.length + 1 + 1 ≤ _; omega
            · rw [xp_snoc, List.length_append, d7]; show _ + 1 + 1 ≤ _; omega
            · intro t ht
              exact ty_snoc (hty1 t ht) (ty_unit d6 (false :: t)) (by show t.length + 1 + 1 ≤ 28; omega)
        unfold fX4_sum_73
        rw [k51, rs_s]; unfold fX11_readSum_10B fX11_readSum_28
        rw [show fX11_isSign τ1 43 = _ from j43, show fX11_isSign τ1 45 = _ from j45]
        by_cases k43 : kd laws T len c = 43
        · have v22 : τ1 0 22 = nI 43 := by
            have t5 := hM1.2.2.2.2.1
            rw [k43] at t5
            rcases t5 with ⟨h, _⟩ | ⟨h, _⟩ | ⟨_, _, h⟩ | ⟨i, _, h, _⟩ | ⟨m, _, h, _⟩
            · omega
            · omega
            · exact h
            · omega
            · omega
          rw [if_pos (show nI (kd laws T len c) = 43 by rw [k43]; rfl), bI_t k43, if_neg n10, v22, if_pos (show nI 43 = 43 from rfl)]
          unfold fX4_sum_87
          rcases take_C hx hC1 (k := 43) (by omega) with ⟨_, hc, σ2, t1, t2, t3⟩ | ⟨q, _⟩
          · rw [show fX4_take σ1 43 = _ from t1, p_cb, if_neg n10]
            exact more 4 σ2 (Or.inl rfl) hc (Or.inl k43) t2 t3
          · exact absurd k43 q
        · rw [if_neg (show ¬ nI (kd laws T len c) = 43 from fun z => k43 ((kd_eq (k := 43) hx (by omega)).mp z)), bI_f k43, if_pos rfl]
          unfold fX4_sum_87
          rcases take_C hx hC1 (k := 43) (by omega) with ⟨q, _⟩ | ⟨_, t0⟩
          · exact absurd q k43
          rw [show fX4_take σ1 43 = _ from t0, p_cb, if_pos rfl]
          by_cases k45 : kd laws T len c = 45
          · have v22 : τ1 0 22 = nI 45 := by
              have t5 := hM1.2.2.2.2.1
              rw [k45] at t5
              rcases t5 with ⟨h, _⟩ | ⟨h, _⟩ | ⟨_, _, h⟩ | ⟨i, _, h, _⟩ | ⟨m, _, h, _⟩
              · omega
              · omega
              · exact h
              · omega
              · omega
            rw [bI_t k45, if_neg n10, v22, if_neg (show ¬ nI 45 = 43 by decide)]
            rcases take_C hx hC1 (k := 45) (by omega) with ⟨_, hc, σ2, t1, t2, t3⟩ | ⟨q, _⟩
            · rw [show fX4_take σ1 45 = _ from t1, p_cb, if_neg n10]
              exact more 5 σ2 (Or.inr rfl) hc (Or.inr k45) t2 t3
            · exact absurd k45 q
          · rw [bI_f k45, if_pos rfl]
            rcases take_C hx hC1 (k := 45) (by omega) with ⟨q, _⟩ | ⟨_, t1⟩
            · exact absurd q k45
            rw [show fX4_take σ1 45 = _ from t1, p_cb, if_pos rfl]
            exact Or.inr ⟨σ1, τ1, c, C1, rfl, rfl, hc0, hC1.2.2.2.2.1, hC1, hM1, lC1, lX1, hty1, fP1, fQ1⟩
      cases pd with
      | none =>
        rw [if_pos (show pdI none = -1 from rfl)]
        exact rest σ τ C hC hM lC lX hty fP fQ
      | some k =>
        have hk := hpd k rfl
        have lC' : C.length + 1 ≤ c - c0 := lC
        have lX' : (xp (mpN laws) C).length + 1 ≤ c - c0 := lX
        have cn := hC.2.2.2.2.1
        have pk : pdI (some k) = nI k := rfl
        obtain ⟨σ1, e1, e2, e3⟩ := add_C (o := k) (a := 0) hC (by rw [List.length_append]; omega)
        obtain ⟨τ1, g1, g2, g3⟩ := emit1 (moN k) 0 hM (by rw [List.length_append]; omega)
        rw [pk, if_neg (nI_m1 (by omega)), cls_gw hC, show (0 : Int32) = nI 0 from rfl, e1, p_cv]
        show outP laws T len n x σ0 τ0 c0 A X false 3 (fX4_sum_73 (fX4_sum_6 f6) σ1 0 (nI x3)) (cv (fX11_emits τ (nI (moN k)) 0) fun σ8 => fX11_readSum_10 f3 σ8)
        rw [show fX11_emits τ (nI (moN k)) 0 = _ from g1, p_cv]
        refine rest σ1 τ1 (C ++ [(k, 0)]) (by rw [← List.append_assoc]; exact e2) (by rw [xp_snoc, xp1_op (by omega), ← List.append_assoc]; exact g2) ?_ ?_ ?_ (frP_t fP e3) (frQ_t fQ g3)
        · rw [List.length_append]; show C.length + 1 ≤ _; omega
        · rw [xp_snoc, xp1_op (by omega), List.length_append]; show _ + 1 ≤ _; omega
        · intro t ht
          exact ty_snoc (hty t ht) (ty_bin (by omega) t) (by show t.length + 1 ≤ 28; omega)
theorem sum_both {laws : Bool} {T : Nat → Nat} {len n x c : Nat} {σ τ : St} {A X : Cd} (hx : ctx laws T len n) (h : cls laws T len n x σ c A) (hm : mdl laws T len τ c X) (hA : A.length ≤ c) (hX : X.length ≤ c) : outP laws T len n x σ τ c A X false 3 (fX4_sum σ) (fX11_readSum τ) := by
  have n6 : n ≤ 600 := by have := hx.1; have := hx.2.1; omega
  unfold fX4_sum fX11_readSum fX11_readProduct
  rw [FU_eq, show (5000 : Nat) = 4999 + 1 from rfl, s6_s]; unfold fX4_sum_6B
  rw [if_neg (show ¬ (600 : Int32) < 0 by decide)]
  rcases unit_both hx h hm hA hX with ⟨σ', τ', d1, d2, d3, d4, d5⟩ | ⟨σ2, τ2, q, d1, d2, d3, d4, d5, d6, d7, d8, d9⟩
  · rw [d1, p_cb, if_pos rfl, d2, p_cb, if_pos rfl, p_cb, if_pos rfl]
    exact Or.inl ⟨σ', τ', rfl, rfl, d3, d4, d5⟩
  · rw [d1, p_cb, if_neg n10, if_pos rfl, s36_C, d2, p_cb, if_neg (show ¬ (0 : Int32) = -1 by decide)]
    have := sum_go (x := x) (c0 := c) (σ0 := σ) (τ0 := τ) hx hA hX (n - (c + 1)) (c + 1) 4999 FU 5000 5000 0 0 σ2 τ2 [q] none (by omega) (by omega) (by rw [FU_eq]; omega) (by omega) (by omega) (by omega) (by omega) (by omega) d4 (by show mdl laws T len τ2 (c + 1) (X ++ xp (mpN laws) ([] ++ [q])); rw [xp_snoc]; exact d5) (by show 1 + 0 ≤ _; omega) (by show (xp (mpN laws) ([] ++ [q])).length + 0 ≤ _; rw [xp_snoc, List.length_append, d7]; show 0 + 1 + 0 ≤ _; omega) (fun k e => by exact nomatch e) (fun t ht => ty_one (ty_unit d6 t) (by show t.length + 1 ≤ 28; omega)) d8 d9
    exact this
