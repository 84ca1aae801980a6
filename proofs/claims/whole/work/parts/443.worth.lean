/-! code at work in the model -/
theorem two_spec {env : Nat → Int32} {c1 : Nat} {x a : Int32} (h3 : 3 < c1) (h11 : c1 ≤ 11) (hb : 9 < c1 → (a = 0 ∨ a = 1) ∧ (x = 0 ∨ x = 1)) : fX11_twoOf (nI (moN c1)) x a = some (made env c1 0 x a) ∧ ¬ nI (moN c1) = 0 ∧ ¬ nI (moN c1) = 1 ∧ ¬ nI (moN c1) = 9 := by
  have hc : c1 = 4 ∨ c1 = 5 ∨ c1 = 6 ∨ c1 = 7 ∨ c1 = 8 ∨ c1 = 9 ∨ c1 = 10 ∨ c1 = 11 := by omega
  rcases hc with rfl | rfl | rfl | rfl | rfl | rfl | rfl | rfl
  · exact ⟨rfl, by decide, by decide, by decide⟩
  · exact ⟨rfl, by decide, by decide, by decide⟩
  · exact ⟨rfl, by decide, by decide, by decide⟩
  · refine ⟨?_, by decide, by decide, by decide⟩
    show (if a ≤ x then some 0 else some 1) = some (if x < a then (1 : Int32) else 0)
    by_cases q : a ≤ x
    · rw [if_pos q, if_neg (Int32.not_lt.mpr q)]
    · rw [if_neg q, if_pos (Int32.not_le.mp q)]
  · refine ⟨?_, by decide, by decide, by decide⟩
    show (if x = a then some 1 else some 0) = some (if x = a then (1 : Int32) else 0)
    by_cases q : x = a
    · rw [if_pos q, if_pos q]
    · rw [if_neg q, if_neg q]
  · refine ⟨?_, by decide, by decide, by decide⟩
    show (if x ≤ a then some 0 else some 1) = some (if a < x then (1 : Int32) else 0)
    by_cases q : x ≤ a
    · rw [if_pos q, if_neg (Int32.not_lt.mpr q)]
    · rw [if_neg q, if_pos (Int32.not_le.mp q)]
  · refine ⟨?_, by decide, by decide, by decide⟩
    obtain ⟨q1, q2⟩ := hb (by omega)
    rcases q1 with rfl | rfl <;> rcases q2 with rfl | rfl <;> rfl
  · refine ⟨?_, by decide, by decide, by decide⟩
    obtain ⟨q1, q2⟩ := hb (by omega)
    rcases q1 with rfl | rfl <;> rcases q2 with rfl | rfl <;> rfl
theorem row_end {row to ix : Nat} (hr : row ≤ 2) (ht : to ≤ 600) (hi : ix ≤ 1800) : ((600 : Int32) * nI row + nI to ≤ nI ix) ↔ 600 * row + to ≤ ix := by
  rw [show (600 : Int32) = nI 600 from rfl, pk_mul, nI_add]
  exact nI_leI (by omega) (by omega)
theorem wo_num {row to n ix m : Nat} {rec : RM} {τ : St} (hr : row ≤ 2) (ht : to ≤ 600) (hi : ix < 600 * row + to) (h8 : ix < 1800) (hn : n < 620) (ho : τ 21 ix = nI 0) (ha : τ 22 ix = nI m) : fX11_worth_12B rec τ (nI row) (nI to) (nI n) (nI ix) = rec (st_put τ 25 n (nI m)) (nI row) (nI to) (nI (n + 1)) (nI (ix + 1)) := by
  unfold fX11_worth_12B fX11_worth_45 fX11_worth_83
  rw [if_neg (fun q => by have := (row_end hr ht (by omega)).mp q; omega), p_rdN h8 (by omega), ho, if_pos (show nI 0 = 0 from rfl), p_rdN h8 (by omega), ho, if_pos (show nI 0 = 0 from rfl), p_rdN h8 (by omega), ha, p_wrN hn (by omega), ← nI_succ, ← nI_succ]
theorem wo_ask {row to n ix m : Nat} {rec : RM} {τ : St} {v : Int32} (hr : row ≤ 2) (ht : to ≤ 600) (hi : ix < 600 * row + to) (h8 : ix < 1800) (hn : n < 620) (ho : τ 21 ix = nI 1) (ha : τ 22 ix = nI m) (hm : m < 16) (hv : τ 24 m = v) : fX11_worth_12B rec τ (nI row) (nI to) (nI n) (nI ix) = rec (st_put τ 25 n v) (nI row) (nI to) (nI (n + 1)) (nI (ix + 1)) := by
  unfold fX11_worth_12B fX11_worth_45 fX11_worth_83
  rw [if_neg (fun q => by have := (row_end hr ht (by omega)).mp q; omega), p_rdN h8 (by omega), ho, if_neg (show ¬ nI 1 = 0 by decide), p_rdN h8 (by omega), ho, if_pos (show nI 1 = 1 from rfl), p_rdN h8 (by omega), ho, if_neg (show ¬ nI 1 = 0 by decide), p_rdN h8 (by omega), ha, p_rdN hm (by omega), hv, p_wrN hn (by omega), ← nI_succ, ← nI_succ]
theorem wo_not {row to n ix : Nat} {rec : RM} {τ : St} {v : Int32} (hr : row ≤ 2) (ht : to ≤ 600) (hi : ix < 600 * row + to) (h8 : ix < 1800) (hn : n < 600) (ho : τ 21 ix = nI 9) (hv : τ 25 n = v) : fX11_worth_12B rec τ (nI row) (nI to) (nI (n + 1)) (nI ix) = rec (st_put τ 25 n (1 - v)) (nI row) (nI to) (nI (n + 1)) (nI (ix + 1)) := by
  unfold fX11_worth_12B
  rw [if_neg (fun q => by have := (row_end hr ht (by omega)).mp q; omega), p_rdN h8 (by omega), ho, if_neg (show ¬ nI 9 = 0 by decide), p_rdN h8 (by omega), ho, if_neg (show ¬ nI 9 = 1 by decide), p_rdN h8 (by omega), ho, if_pos (show nI 9 = 9 from rfl), show nI (n + 1) - 1 = nI n from nI_pred n, p_rdN (by omega) (by omega), hv, p_wrN (by omega) (by omega), ← nI_succ]
theorem wo_two {row to n ix c : Nat} {rec : RM} {τ : St} {x a m : Int32} (hr : row ≤ 2) (ht : to ≤ 600) (hi : ix < 600 * row + to) (h8 : ix < 1800) (hn : n < 600) (ho : τ 21 ix = nI c) (hx : τ 25 n = x) (ha : τ 25 (n + 1) = a) (h2 : fX11_twoOf (nI c) x a = some m ∧ ¬ nI c = 0 ∧ ¬ nI c = 1 ∧ ¬ nI c = 9) : fX11_worth_12B rec τ (nI row) (nI to) (nI (n + 2)) (nI ix) = rec (st_put τ 25 n m) (nI row) (nI to) (nI (n + 1)) (nI (ix + 1)) := by
  unfold fX11_worth_12B
  rw [if_neg (fun q => by have := (row_end hr ht (by omega)).mp q; omega), p_rdN h8 (by omega), ho, if_neg h2.2.1, p_rdN h8 (by omega), ho, if_neg h2.2.2.1, p_rdN h8 (by omega), ho, if_neg h2.2.2.2, p_rdN h8 (by omega), ho, show nI (n + 2) - 1 = nI (n + 1) from nI_pred (n + 1), show nI (n + 1) - 1 = nI n from nI_pred n, p_rdN (by omega) (by omega), p_rdN (by omega) (by omega), hx, ha, h2.1, p_cq, p_wrN (by omega) (by omega), ← nI_succ]
theorem worth_s (f : Nat) (τ : St) (x y z w : Int32) : fX11_worth_12 (f + 1) τ x y z w = fX11_worth_12B (fX11_worth_12 f) τ x y z w := rfl
theorem div_spec {x : Int32} {n : Nat} (h1 : 1 ≤ n) (h2 : n ≤ 9999) : fX11_twoOf (nI 5) x (nI n) = some (x / nI n) ∧ ¬ nI 5 = 0 ∧ ¬ nI 5 = 1 ∧ ¬ nI 5 = 9 := by
  refine ⟨?_, by decide, by decide, by decide⟩
  show nz (nI n) (some (x / nI n)) = _
  exact p_nz (fun q => by have := (nI_e0 (by omega)).mp q; omega) _
theorem xp_cons (mp : Nat → Nat) (c : Nat × Nat) (C : Cd) : xp mp (c :: C) = xp1 mp c ++ xp mp C := by unfold xp; rw [List.flatMap_cons]
theorem xp_app (mp : Nat → Nat) (C D : Cd) : xp mp (C ++ D) = xp mp C ++ xp mp D := by unfold xp; rw [List.flatMap_append]
theorem xp1_len (mp : Nat → Nat) (c : Nat × Nat) : (xp1 mp c).length = if c.1 = 2 then 2 else 1 := by
  unfold xp1
  by_cases h : c.1 = 2
  · rw [if_pos h, if_pos h]; rfl
  · rw [if_neg h, if_neg h]; split <;> rfl
theorem worth_M {row nv to : Nat} {mp : Nat → Nat} {env : Nat → Int32} (hr : row ≤ 2) (hto : to ≤ 600) (hmp : ∀ j, j < nv → mp j < 16) (hnv : nv ≤ 16) : ∀ (C : Cd) (t t' : List Bool) (s : List Int32) (at_ f : Nat) (τ : St), tyC nv C t = some t' → wt t s → s.length ≤ 28 → stk (τ 25) 0 s → at_ + (xp mp C).length = to → (xp mp C).length < f → (∀ i c, (xp mp C)[i]? = some c → τ 21 (600 * row + at_ + i) = nI c.1 ∧ τ 22 (600 * row + at_ + i) = nI c.2) → (∀ j, j < nv → τ 24 (mp j) = env j) → ∃ τ', fX11_worth_12 f τ (nI row) (nI to) (nI s.length) (nI (600 * row + at_)) = (rdK 620 (τ' 25) 0 fun v2 => some (v2, τ')) ∧ (∀ a, ¬ a = 25 → τ' a = τ a) ∧ stk (τ' 25) 0 (evC env C s) := by
  intro C
  induction C with
  | nil =>
    intro t t' s at_ f τ hty hw hl hs hat hf hst he
    obtain ⟨f, rfl⟩ : ∃ g, f = g + 1 := ⟨f - 1, by omega⟩
    rw [worth_s]; unfold fX11_worth_12B
    have hat' : at_ + 0 = to := hat
    rw [if_pos ((row_end hr hto (by omega)).mpr (by omega))]
    exact ⟨τ, rfl, fun _ _ => rfl, hs⟩
  | cons c C ih =>
    intro t t' s at_ f τ hty hw hl hs hat hf hst he
    obtain ⟨c1, c2⟩ := c
    rw [xp_cons, List.length_append, xp1_len] at hat hf
    simp only at hat hf
    rw [xp_cons] at hst
    obtain ⟨f, rfl⟩ : ∃ g, f = g + 1 := ⟨f - 1, by omega⟩
    unfold tyC at hty
    cases h1 : ty1 nv (c1, c2) t with
    | none => rw [h1] at hty; exact absurd hty (by simp)
    | some u =>
      rw [h1] at hty
      simp only at hty
      by_cases lu : u.length ≤ 28
      rotate_left
      · rw [if_neg lu] at hty; exact absurd hty (by simp)
      rw [if_pos lu] at hty
      obtain ⟨w1, k1, k2, k3, k4, k5⟩ := ev1_made (env := env) h1 hw
      have l1 := wt_len w1
      have go : ∀ (m : Int32) (r : List Int32) (f' : Nat) (τ1 : St) (L : Nat), L = (xp1 mp (c1, c2)).length → (xp mp C).length < f' → ev1 env (c1, c2) s = m :: r → stk (τ1 25) 0 (m :: r) → (∀ a, ¬ a = 25 → τ1 a = τ a) → ∃ τ', fX11_worth_12 f' τ1 (nI row) (nI to) (nI (r.length + 1)) (nI (600 * row + at_ + L)) = (rdK 620 (τ' 25) 0 fun v2 => some (v2, τ')) ∧ (∀ a, ¬ a = 25 → τ' a = τ a) ∧ stk (τ' 25) 0 (evC env ((c1, c2) :: C) s) := by
        intro m r f' τ1 L hL hf' e hr' hsame
        rw [e] at w1 l1
        simp only [List.length_cons] at l1
        have hL2 := xp1_len mp (c1, c2)
        obtain ⟨τ', i1, i2, i3⟩ := ih u t' (m :: r) (at_ + L) f' τ1 hty w1 (by simp only [List.length_cons]; omega) hr' (by rw [hL, hL2]; simp only; omega) hf' (fun i c hi => by
          rw [hsame 21 (by omega), hsame 22 (by omega), show 600 * row + (at_ + L) + i = 600 * row + at_ + (L + i) by omega]
          refine hst (L + i) c ?_
          rw [hL, List.getElem?_append_right (by omega), Nat.add_sub_cancel_left]
          exact hi) (fun j hj => by rw [hsame 24 (by omega)]; exact he j hj)
        rw [show evC env ((c1, c2) :: C) s = evC env C (m :: r) by rw [← e]; rfl, show 600 * row + at_ + L = 600 * row + (at_ + L) by omega]
        exact ⟨τ', i1, fun a ha => by rw [i2 a ha, hsame a ha], i3⟩
      have ft : ∀ i, i < (xp1 mp (c1, c2)).length → ∀ c, (xp1 mp (c1, c2))[i]? = some c → τ 21 (600 * row + at_ + i) = nI c.1 ∧ τ 22 (600 * row + at_ + i) = nI c.2 := fun i hi c hc => hst i c (by rw [List.getElem?_append_left hi]; exact hc)
      rw [worth_s]
      rcases k5 with ⟨q1, q2⟩ | ⟨q1, q2, a, r, rfl, q3⟩ | ⟨q1, a, x, r, rfl, q2, q3⟩
      · -- a number, or a thing asked
        have hL1 : (if c1 = 2 then 2 else 1) = 1 := if_neg (by omega)
        rw [hL1] at hat hf
        rcases (show c1 = 0 ∨ c1 = 1 by omega) with rfl | rfl
        · obtain ⟨f1, f2⟩ := ft 0 (by rw [xp1_len]; exact Nat.one_pos) (0, c2) rfl
          rw [wo_num (ix := 600 * row + at_) (n := s.length) (m := c2) hr hto (by omega) (by omega) (by omega) f1 f2]
          exact go (nI c2) s f _ 1 (by rw [xp1_len]; rfl) (by omega) (q2 0 0) (by rw [sp_same]; have := stk_push (f := τ 25) (o := 0) (v := nI c2) hs; rw [Nat.zero_add] at this; exact this) (fun a ha => sp_ne ha)
        · obtain ⟨f1, f2⟩ := ft 0 (by rw [xp1_len]; exact Nat.one_pos) (1, mp c2) rfl
          have k2' := k2 rfl
          rw [wo_ask (ix := 600 * row + at_) (n := s.length) (m := mp c2) (v := env c2) hr hto (by omega) (by omega) (by omega) f1 f2 (hmp c2 k2') (he c2 k2')]
          exact go (env c2) s f _ 1 (by rw [xp1_len]; rfl) (by omega) (q2 0 0) (by rw [sp_same]; have := stk_push (f := τ 25) (o := 0) (v := env c2) hs; rw [Nat.zero_add] at this; exact this) (fun a ha => sp_ne ha)
      · simp only [List.length_cons] at hl ⊢
        have ha : τ 25 r.length = a := by have := hs.1; rw [Nat.zero_add] at this; exact this
        rcases (show c1 = 2 ∨ c1 = 3 by omega) with rfl | rfl
        · rw [if_pos rfl] at hat hf
          obtain ⟨f1, f2⟩ := ft 0 (by rw [xp1_len]; exact Nat.two_pos) (0, c2) rfl
          obtain ⟨g1, _⟩ := ft 1 (by rw [xp1_len]; exact Nat.lt_succ_self 1) (5, 0) rfl
          have k3' := k3 hnv
          have k4' := k4 rfl
          rw [wo_num (ix := 600 * row + at_) (n := r.length + 1) (m := c2) hr hto (by omega) (by omega) (by omega) f1 f2]
          obtain ⟨f, rfl⟩ : ∃ g, f = g + 1 := ⟨f - 1, by omega⟩
          rw [worth_s, wo_two (n := r.length) (c := 5) (x := a) (a := nI c2) (m := a / nI c2) hr hto (by omega) (by omega) (by omega) (by rw [sp_ne (by omega)]; exact g1) (by rw [sp_same, up_ne (by omega)]; exact ha) (by rw [sp_same, up_same]) (div_spec k4' k3')]
          exact go (a / nI c2) r f _ 2 (by rw [xp1_len]; rfl) (by omega) (q3 0) (by rw [sp_same, sp_same]; have := stk_push (f := upd (τ 25) (r.length + 1) (nI c2)) (o := 0) (v := a / nI c2) (stk_up hs.2 (by omega)); rw [Nat.zero_add] at this; exact this) (fun a ha => by rw [sp_ne ha, sp_ne ha])
        · rw [if_neg (by omega)] at hat hf
          obtain ⟨f1, f2⟩ := ft 0 (by rw [xp1_len]; exact Nat.one_pos) (9, c2) rfl
          rw [wo_not (ix := 600 * row + at_) (n := r.length) (v := a) hr hto (by omega) (by omega) (by omega) f1 ha]
          exact go (1 - a) r f _ 1 (by rw [xp1_len]; rfl) (by omega) (q3 0) (by rw [sp_same]; have := stk_push (f := τ 25) (o := 0) (v := 1 - a) hs.2; rw [Nat.zero_add] at this; exact this) (fun a ha => sp_ne ha)
      · simp only [List.length_cons] at hl ⊢
        have ha : τ 25 (r.length + 1) = a := by have := hs.1; rw [Nat.zero_add] at this; exact this
        have hx : τ 25 r.length = x := by have := hs.2.1; rw [Nat.zero_add] at this; exact this
        rw [if_neg (by omega)] at hat hf
        have e1 : xp1 mp (c1, c2) = [(moN c1, c2)] := by unfold xp1; rw [if_neg (show ¬ (c1, c2).1 = 2 by simp only; omega), if_neg (show ¬ (c1, c2).1 = 1 by simp only; omega)]
        obtain ⟨f1, f2⟩ := ft 0 (by rw [e1]; exact Nat.one_pos) (moN c1, c2) (by rw [e1]; rfl)
        have c20 : made env c1 0 x a = made env c1 c2 x a := by
          unfold made
          rw [if_neg (by omega), if_neg (by omega), if_neg (by omega), if_neg (show ¬ c1 = 0 by omega), if_neg (show ¬ c1 = 1 by omega), if_neg (show ¬ c1 = 2 by omega)]
        have tw := two_spec (env := env) q1 k1 q3
        rw [c20] at tw
        rw [show r.length + 1 + 1 = r.length + 2 from rfl, wo_two (ix := 600 * row + at_) (n := r.length) (c := moN c1) (x := x) (a := a) (m := made env c1 c2 x a) hr hto (by omega) (by omega) (by omega) f1 hx ha tw]
        exact go (made env c1 c2 x a) r f _ 1 (by rw [e1]; rfl) (by omega) q2 (by rw [sp_same]; have := stk_push (f := τ 25) (o := 0) (v := made env c1 c2 x a) hs.2.2; rw [Nat.zero_add] at this; exact this) (fun a ha => sp_ne ha)
/-- code that comes to one value -/
theorem work_val {b v nv at_ to : Nat} {env : Nat → Int32} {C : Cd} {x : Bool} {σ : St} (hb : ¬ v = b + 6) (hto : to ≤ 600) (hv : aaN v = nv) (hnv : nv ≤ 16) (hty : tyC nv C [] = some [x]) (hat : at_ + C.length = to) (hst : ∀ i c, C[i]? = some c → σ (b + 1) (at_ + i) = nI (c.1 * 16384 + c.2)) (he : ∀ j, j < nv → σ v j = env j) : ∃ σ', fX9_work b v σ (nI at_) (nI to) = some (evV env C, σ') ∧ ∀ a, ¬ a = b + 6 → σ' a = σ a := by
  obtain ⟨σ', e1, e2, e3, e4⟩ := work_C (env := env) hb hto hv hnv C [] [x] [] at_ FU σ hty trivial (by simp) trivial hat (by rw [FU_eq]; omega) hst he
  refine ⟨σ', ?_, e2⟩
  obtain ⟨a, r, e5, _, e6⟩ := wt_cons e4
  have r0 : r = [] := by cases r with
    | nil => rfl
    | cons _ _ => exact absurd e6 id
  subst r0
  unfold fX9_work
  rw [e5] at e1 e3
  refine e1.trans ?_
  unfold fX9_work_348 evV
  rw [e5]
  show (if nI 3 ≤ 2 then some (0, σ') else rdK 32 (σ' (b + 6)) (nI 3 - 1) fun v2 => some (v2, σ')) = _
  rw [if_neg (by decide), show nI 3 - 1 = nI 2 from by decide, p_rdN (by omega) (by omega)]
  have : σ' (b + 6) 2 = a := e3.1
  rw [this]; rfl
theorem worth_val {row nv at_ to : Nat} {mp : Nat → Nat} {env : Nat → Int32} {C : Cd} {x : Bool} {τ : St} (hr : row ≤ 2) (hto : to ≤ 600) (hmp : ∀ j, j < nv → mp j < 16) (hnv : nv ≤ 16) (hty : tyC nv C [] = some [x]) (hat : at_ + (xp mp C).length = to) (hst : ∀ i c, (xp mp C)[i]? = some c → τ 21 (600 * row + at_ + i) = nI c.1 ∧ τ 22 (600 * row + at_ + i) = nI c.2) (he : ∀ j, j < nv → τ 24 (mp j) = env j) : ∃ τ', fX11_worth τ (nI row) (nI at_) (nI to) = some (evV env C, τ') ∧ ∀ a, ¬ a = 25 → τ' a = τ a := by
  obtain ⟨τ', e1, e2, e3⟩ := worth_M (env := env) hr hto hmp hnv C [] [x] [] at_ FU τ hty trivial (by simp) trivial hat (by rw [FU_eq]; omega) hst he
  have tyl : ∀ (C : Cd) (t t' : List Bool) (s : List Int32), tyC nv C t = some t' → wt t s → wt t' (evC env C s) := by
    intro C
    induction C with
    | nil => intro t t' s h hw; have : t = t' := Option.some.inj h; subst this; exact hw
    | cons c C ih =>
      intro t t' s h hw
      unfold tyC at h
      cases h1 : ty1 nv c t with
      | none => rw [h1] at h; exact absurd h (by simp)
      | some u =>
        rw [h1] at h
        simp only at h
        by_cases lu : u.length ≤ 28
        · rw [if_pos lu] at h; exact ih u t' _ h (ev1_made (env := env) (c1 := c.1) (c2 := c.2) h1 hw).1
        · rw [if_neg lu] at h; exact absurd h (by simp)
  have e4 := tyl C [] [x] [] hty trivial
  refine ⟨τ', ?_, e2⟩
  obtain ⟨a, r, e5, _, e6⟩ := wt_cons e4
  have r0 : r = [] := by cases r with
    | nil => rfl
    | cons _ _ => exact absurd e6 id
  subst r0
  unfold fX11_worth evV
  rw [show (600 : Int32) = nI 600 from rfl, pk_mul, nI_add]
  refine e1.trans ?_
  rw [e5] at e3 ⊢
  rw [show (rdK 620 (τ' 25) 0 : (Int32 → Option (Int32 × St)) → _) = rdK 620 (τ' 25) (nI 0) from rfl, p_rdN (by omega) (by omega)]
  have : τ' 25 0 = a := e3.1
  rw [this]; rfl
