/-! code at work -/
/-- a stack of values, the last first, from o on -/
def stk (f : Nat → Int32) (o : Nat) : List Int32 → Prop
  | [] => True
  | a :: r => f (o + r.length) = a ∧ stk f o r
theorem stk_up {f : Nat → Int32} {o i : Nat} {v : Int32} : ∀ {s : List Int32}, stk f o s → o + s.length ≤ i → stk (upd f i v) o s := by
  intro s
  induction s with
  | nil => intro _ _; trivial
  | cons a r ih =>
    intro h hi
    simp only [List.length_cons] at hi
    exact ⟨by rw [up_ne (by omega)]; exact h.1, ih h.2 (by omega)⟩
theorem stk_push {f : Nat → Int32} {o : Nat} {v : Int32} {s : List Int32} (h : stk f o s) : stk (upd f (o + s.length) v) o (v :: s) := ⟨up_same, stk_up h (Nat.le_refl _)⟩
def wt : List Bool → List Int32 → Prop
  | [], [] => True
  | b :: t, a :: s => (b = true → a = 0 ∨ a = 1) ∧ wt t s
  | _, _ => False
theorem wt_len : ∀ {t : List Bool} {s : List Int32}, wt t s → s.length = t.length := by
  intro t
  induction t with
  | nil => intro s h; cases s with
    | nil => rfl
    | cons a s => exact absurd h id
  | cons b t ih => intro s h; cases s with
    | nil => exact absurd h id
    | cons a s => rw [List.length_cons, List.length_cons, ih h.2]
theorem wt_cons {b : Bool} {t : List Bool} {s : List Int32} (h : wt (b :: t) s) : ∃ a r, s = a :: r ∧ (b = true → a = 0 ∨ a = 1) ∧ wt t r := by
  cases s with
  | nil => exact absurd h id
  | cons a r => exact ⟨a, r, rfl, h.1, h.2⟩
theorem ty1_cases {nv c1 c2 : Nat} {t t' : List Bool} (h : ty1 nv (c1, c2) t = some t') : (c1 = 0 ∧ c2 ≤ 9999 ∧ t' = false :: t) ∨ (c1 = 1 ∧ c2 < nv ∧ t' = false :: t) ∨ (c1 = 2 ∧ (1 ≤ c2 ∧ c2 ≤ 9999) ∧ ∃ u, t = false :: u ∧ t' = false :: u) ∨ (c1 = 3 ∧ c2 = 0 ∧ ∃ u, t = true :: u ∧ t' = true :: u) ∨ ((c1 = 4 ∨ c1 = 5 ∨ c1 = 6) ∧ c2 = 0 ∧ ∃ u, t = false :: false :: u ∧ t' = false :: u) ∨ ((c1 = 7 ∨ c1 = 8 ∨ c1 = 9) ∧ c2 = 0 ∧ ∃ u, t = false :: false :: u ∧ t' = true :: u) ∨ ((c1 = 10 ∨ c1 = 11) ∧ c2 = 0 ∧ ∃ u, t = true :: true :: u ∧ t' = true :: u) := by
  unfold ty1 at h
  simp only at h
  by_cases k0 : c1 = 0
  · rw [if_pos k0] at h
    by_cases q : c2 ≤ 9999
    · rw [if_pos q] at h; exact Or.inl ⟨k0, q, (Option.some.inj h).symm⟩
    · rw [if_neg q] at h; exact absurd h (by simp)
  rw [if_neg k0] at h
  by_cases k1 : c1 = 1
  · rw [if_pos k1] at h
    by_cases q : c2 < nv
    · rw [if_pos q] at h; exact Or.inr (Or.inl ⟨k1, q, (Option.some.inj h).symm⟩)
    · rw [if_neg q] at h; exact absurd h (by simp)
  rw [if_neg k1] at h
  by_cases k2 : c1 = 2
  · rw [if_pos k2] at h
    split at h
    · rename_i u
      by_cases q : 1 ≤ c2 ∧ c2 ≤ 9999
      · rw [if_pos q] at h; exact Or.inr (Or.inr (Or.inl ⟨k2, q, u, rfl, (Option.some.inj h).symm⟩))
      · rw [if_neg q] at h; exact absurd h (by simp)
    · exact absurd h (by simp)
  rw [if_neg k2] at h
  by_cases z : c2 = 0
  rotate_left
  · rw [if_neg z] at h; exact absurd h (by simp)
  rw [if_pos z] at h
  by_cases k3 : c1 = 3
  · rw [if_pos k3] at h
    split at h
    · rename_i u; exact Or.inr (Or.inr (Or.inr (Or.inl ⟨k3, z, u, rfl, (Option.some.inj h).symm⟩)))
    · exact absurd h (by simp)
  rw [if_neg k3] at h
  by_cases k4 : c1 = 4 ∨ c1 = 5 ∨ c1 = 6
  · rw [if_pos k4] at h
    split at h
    · rename_i u; exact Or.inr (Or.inr (Or.inr (Or.inr (Or.inl ⟨k4, z, u, rfl, (Option.some.inj h).symm⟩))))
    · exact absurd h (by simp)
  rw [if_neg k4] at h
  by_cases k7 : c1 = 7 ∨ c1 = 8 ∨ c1 = 9
  · rw [if_pos k7] at h
    split at h
    · rename_i u; exact Or.inr (Or.inr (Or.inr (Or.inr (Or.inr (Or.inl ⟨k7, z, u, rfl, (Option.some.inj h).symm⟩)))))
    · exact absurd h (by simp)
  rw [if_neg k7] at h
  by_cases k10 : c1 = 10 ∨ c1 = 11
  · rw [if_pos k10] at h
    split at h
    · rename_i u; exact Or.inr (Or.inr (Or.inr (Or.inr (Or.inr (Or.inr ⟨k10, z, u, rfl, (Option.some.inj h).symm⟩)))))
    · exact absurd h (by simp)
  rw [if_neg k10] at h
  exact absurd h (by simp)
/-- what a step makes of the last two: x, then a -/
def made (env : Nat → Int32) (c1 c2 : Nat) (x a : Int32) : Int32 :=
  if c1 = 0 then nI c2 else if c1 = 1 then env c2 else if c1 = 2 then a / nI c2 else if c1 = 3 then 1 - a else if c1 = 4 then x + a else if c1 = 5 then x - a else if c1 = 6 then x * a else if c1 = 7 then (if x < a then 1 else 0) else if c1 = 8 then (if x = a then 1 else 0) else if c1 = 9 then (if a < x then 1 else 0) else if c1 = 10 then x &&& a else x ||| a
def less (c1 : Nat) (s : List Int32) : List Int32 := if c1 ≤ 1 then s else if c1 ≤ 3 then s.drop 1 else s.drop 2
abbrev RC : Type := St → Int32 → Int32 → Int32 → Option (Int32 × St)
abbrev RM : Type := St → Int32 → Int32 → Int32 → Int32 → Option (Int32 × St)
theorem w305_1 {b v n k : Nat} {rec : RC} {σ : St} {to at_ m : Int32} (hk : k ≤ 1) (hn : n < 30) : fX9_work_305 b v rec σ to (nI (2 + n)) at_ (nI k) m = rec (st_put σ (b + 6) (2 + n) m) to (nI (2 + (n + 1))) (at_ + 1) := by
  unfold fX9_work_305 fX9_work_328
  rw [if_neg (show ¬ 1 < nI k from nI_nlt (a := 1) (b := k) hk (by omega)), show nI (2 + n) + 1 = nI (2 + (n + 1)) from (nI_succ (2 + n)).symm, show nI (2 + (n + 1)) - 1 = nI (2 + n) from nI_pred (2 + n), p_wrN (by omega) (by omega)]
theorem w305_2 {b v n k : Nat} {rec : RC} {σ : St} {to at_ m : Int32} (hk : 1 < k) (hk3 : k ≤ 3) (hn : n < 29) : fX9_work_305 b v rec σ to (nI (2 + (n + 1))) at_ (nI k) m = rec (st_put σ (b + 6) (2 + n) m) to (nI (2 + (n + 1))) (at_ + 1) := by
  unfold fX9_work_305 fX9_work_328
  rw [if_pos (show 1 < nI k from nI_lt (a := 1) hk (by omega)), if_neg (show ¬ 3 < nI k from nI_nlt (a := 3) (b := k) hk3 (by omega)), Int32.add_zero, show nI (2 + (n + 1)) - 1 = nI (2 + n) from nI_pred (2 + n), p_wrN (by omega) (by omega)]
theorem w305_3 {b v n k : Nat} {rec : RC} {σ : St} {to at_ m : Int32} (hk : 3 < k) (hk9 : k ≤ 11) (hn : n < 28) : fX9_work_305 b v rec σ to (nI (2 + (n + 2))) at_ (nI k) m = rec (st_put σ (b + 6) (2 + n) m) to (nI (2 + (n + 1))) (at_ + 1) := by
  unfold fX9_work_305 fX9_work_328
  rw [if_pos (show 1 < nI k from nI_lt (a := 1) (by omega) (by omega)), if_pos (show 3 < nI k from nI_lt (a := 3) hk (by omega)), add_m1, show nI (2 + (n + 2)) - 1 = nI (2 + (n + 1)) from nI_pred (2 + (n + 1)), show nI (2 + (n + 1)) - 1 = nI (2 + n) from nI_pred (2 + n), p_wrN (by omega) (by omega)]
/-- the class's step as one number -/
theorem work_at {b v nv n c1 c2 at_ to : Nat} {rec : RC} {σ : St} {env : Nat → Int32} (hn : n ≤ 28) (h1 : at_ < to) (h2 : to ≤ 600) (hst : σ (b + 1) at_ = nI (c1 * 16384 + c2)) (hc1 : c1 ≤ 11) (hc2 : c2 ≤ 9999) (hv : aaN v = nv) (hnv : nv ≤ 16) (hnv1 : c1 = 1 → c2 < nv) (hnz : c1 = 2 → 1 ≤ c2) (he : ∀ j, j < nv → σ v j = env j) : fX9_work_6B b v rec σ (nI to) (nI (2 + n)) (nI at_) = fX9_work_305 b v rec σ (nI to) (nI (2 + n)) (nI at_) (nI c1) (made env c1 c2 (σ (b + 6) n) (σ (b + 6) (1 + n))) := by
  unfold fX9_work_6B
  have e1 : nI (c1 * 16384 + c2) / 16384 = nI c1 := by rw [show (16384 : Int32) = nI 16384 from rfl, pk_div (by omega) (by omega) (by omega)]; congr 1; omega
  have e2 : nI (c1 * 16384 + c2) - nI c1 * 16384 = nI c2 := by
    rw [show (16384 : Int32) = nI 16384 from rfl, pk_mul, pk_sub (by omega)]; congr 1; omega
  rw [if_neg (show ¬ nI to ≤ nI at_ from fun q => absurd ((nI_leI (by omega) (by omega)).mp q) (by omega)), if_neg (show ¬ 600 ≤ nI at_ from fun q => absurd ((nI_leI (a := 600) (b := at_) (by omega) (by omega)).mp q) (by omega)), if_neg (show ¬ nI at_ < 0 from fun q => absurd ((nI_ltI (a := at_) (b := 0) (by omega) (by omega)).mp q) (by omega)), if_neg (show ¬ nI (2 + n) < 2 from fun q => absurd ((nI_ltI (a := 2 + n) (b := 2) (by omega) (by omega)).mp q) (by omega)), if_pos (show nI (2 + n) < 32 from nI_lt (b := 32) (by omega) (by omega)), p_rdN (by omega) (by omega), p_rdN (by omega) (by omega), show nI (2 + n) - 2 = nI n by rw [show (2 : Int32) = nI 2 from rfl, pk_sub (by omega)]; congr 1; omega, show nI (2 + n) - 1 = nI (1 + n) by rw [show (1 : Int32) = nI 1 from rfl, pk_sub (by omega)]; congr 1; omega, p_rdN (by omega) (by omega), p_rdN (by omega) (by omega), hst, e1, e2]
  generalize σ (b + 6) n = x
  generalize σ (b + 6) (1 + n) = a
  by_cases k0 : c1 = 0
  · subst k0
    rw [if_pos (show nI 0 = (0 : Int32) from rfl)]; rfl
  by_cases k1 : c1 = 1
  · subst k1
    rw [if_neg (show ¬ nI 1 = (0 : Int32) by decide), if_pos (show nI 1 = (1 : Int32) from rfl), if_neg (show ¬ nI (aaN v) ≤ nI c2 from fun q => absurd ((nI_leI (by omega) (by omega)).mp q) (by have := hnv1 rfl; omega)), p_rdN (by have := hnv1 rfl; omega) (by omega), he c2 (hnv1 rfl)]; rfl
  by_cases k2 : c1 = 2
  · subst k2
    have z2 : ¬ nI c2 = 0 := fun q => by have := (nI_e0 (by omega)).mp q; have := hnz rfl; omega
    rw [if_neg (show ¬ nI 2 = (0 : Int32) by decide), if_neg (show ¬ nI 2 = (1 : Int32) by decide), if_pos (show nI 2 = (2 : Int32) from rfl), if_neg z2, p_nz z2]; rfl
  by_cases k3 : c1 = 3
  · subst k3
    rw [if_neg (show ¬ nI 3 = (0 : Int32) by decide), if_neg (show ¬ nI 3 = (1 : Int32) by decide), if_neg (show ¬ nI 3 = (2 : Int32) by decide), if_pos (show nI 3 = (3 : Int32) from rfl)]; rfl
  by_cases k4 : c1 = 4
  · subst k4
    rw [if_neg (show ¬ nI 4 = (0 : Int32) by decide), if_neg (show ¬ nI 4 = (1 : Int32) by decide), if_neg (show ¬ nI 4 = (2 : Int32) by decide), if_neg (show ¬ nI 4 = (3 : Int32) by decide), if_pos (show nI 4 = (4 : Int32) from rfl)]; rfl
  by_cases k5 : c1 = 5
  · subst k5
    rw [if_neg (show ¬ nI 5 = (0 : Int32) by decide), if_neg (show ¬ nI 5 = (1 : Int32) by decide), if_neg (show ¬ nI 5 = (2 : Int32) by decide), if_neg (show ¬ nI 5 = (3 : Int32) by decide), if_neg (show ¬ nI 5 = (4 : Int32) by decide), if_pos (show nI 5 = (5 : Int32) from rfl)]; rfl
  by_cases k6 : c1 = 6
  · subst k6
    rw [if_neg (show ¬ nI 6 = (0 : Int32) by decide), if_neg (show ¬ nI 6 = (1 : Int32) by decide), if_neg (show ¬ nI 6 = (2 : Int32) by decide), if_neg (show ¬ nI 6 = (3 : Int32) by decide), if_neg (show ¬ nI 6 = (4 : Int32) by decide), if_neg (show ¬ nI 6 = (5 : Int32) by decide), if_pos (show nI 6 = (6 : Int32) from rfl)]; rfl
  by_cases k7 : c1 = 7
  · subst k7
    rw [if_neg (show ¬ nI 7 = (0 : Int32) by decide), if_neg (show ¬ nI 7 = (1 : Int32) by decide), if_neg (show ¬ nI 7 = (2 : Int32) by decide), if_neg (show ¬ nI 7 = (3 : Int32) by decide), if_neg (show ¬ nI 7 = (4 : Int32) by decide), if_neg (show ¬ nI 7 = (5 : Int32) by decide), if_neg (show ¬ nI 7 = (6 : Int32) by decide), if_pos (show nI 7 = (7 : Int32) from rfl)]
    by_cases q : a ≤ x
    · rw [if_pos q, show made env 7 c2 x a = (if x < a then 1 else 0) from rfl, if_neg (Int32.not_lt.mpr q)]
    · rw [if_neg q, show made env 7 c2 x a = (if x < a then 1 else 0) from rfl, if_pos (Int32.not_le.mp q)]
  by_cases k8 : c1 = 8
  · subst k8
    rw [if_neg (show ¬ nI 8 = (0 : Int32) by decide), if_neg (show ¬ nI 8 = (1 : Int32) by decide), if_neg (show ¬ nI 8 = (2 : Int32) by decide), if_neg (show ¬ nI 8 = (3 : Int32) by decide), if_neg (show ¬ nI 8 = (4 : Int32) by decide), if_neg (show ¬ nI 8 = (5 : Int32) by decide), if_neg (show ¬ nI 8 = (6 : Int32) by decide), if_neg (show ¬ nI 8 = (7 : Int32) by decide), if_pos (show nI 8 = (8 : Int32) from rfl)]
    by_cases q : x = a
    · rw [if_pos q, show made env 8 c2 x a = (if x = a then 1 else 0) from rfl, if_pos q]
    · rw [if_neg q, show made env 8 c2 x a = (if x = a then 1 else 0) from rfl, if_neg q]
  by_cases k9 : c1 = 9
  · subst k9
    rw [if_neg (show ¬ nI 9 = (0 : Int32) by decide), if_neg (show ¬ nI 9 = (1 : Int32) by decide), if_neg (show ¬ nI 9 = (2 : Int32) by decide), if_neg (show ¬ nI 9 = (3 : Int32) by decide), if_neg (show ¬ nI 9 = (4 : Int32) by decide), if_neg (show ¬ nI 9 = (5 : Int32) by decide), if_neg (show ¬ nI 9 = (6 : Int32) by decide), if_neg (show ¬ nI 9 = (7 : Int32) by decide), if_neg (show ¬ nI 9 = (8 : Int32) by decide), if_pos (show nI 9 = (9 : Int32) from rfl)]
    by_cases q : x ≤ a
    · rw [if_pos q, show made env 9 c2 x a = (if a < x then 1 else 0) from rfl, if_neg (Int32.not_lt.mpr q)]
    · rw [if_neg q, show made env 9 c2 x a = (if a < x then 1 else 0) from rfl, if_pos (Int32.not_le.mp q)]
  by_cases k10 : c1 = 10
  · subst k10
    rw [if_neg (show ¬ nI 10 = (0 : Int32) by decide), if_neg (show ¬ nI 10 = (1 : Int32) by decide), if_neg (show ¬ nI 10 = (2 : Int32) by decide), if_neg (show ¬ nI 10 = (3 : Int32) by decide), if_neg (show ¬ nI 10 = (4 : Int32) by decide), if_neg (show ¬ nI 10 = (5 : Int32) by decide), if_neg (show ¬ nI 10 = (6 : Int32) by decide), if_neg (show ¬ nI 10 = (7 : Int32) by decide), if_neg (show ¬ nI 10 = (8 : Int32) by decide), if_neg (show ¬ nI 10 = (9 : Int32) by decide), if_pos (show nI 10 = (10 : Int32) from rfl)]; rfl
  have k11 : c1 = 11 := by omega
  subst k11
  rw [if_neg (show ¬ nI 11 = (0 : Int32) by decide), if_neg (show ¬ nI 11 = (1 : Int32) by decide), if_neg (show ¬ nI 11 = (2 : Int32) by decide), if_neg (show ¬ nI 11 = (3 : Int32) by decide), if_neg (show ¬ nI 11 = (4 : Int32) by decide), if_neg (show ¬ nI 11 = (5 : Int32) by decide), if_neg (show ¬ nI 11 = (6 : Int32) by decide), if_neg (show ¬ nI 11 = (7 : Int32) by decide), if_neg (show ¬ nI 11 = (8 : Int32) by decide), if_neg (show ¬ nI 11 = (9 : Int32) by decide), if_neg (show ¬ nI 11 = (10 : Int32) by decide)]; rfl
/-- one step of code, typed: what it makes, and the stack after it -/
theorem ev1_made {nv c1 c2 : Nat} {t t' : List Bool} {s : List Int32} {env : Nat → Int32} (h : ty1 nv (c1, c2) t = some t') (hw : wt t s) : wt t' (ev1 env (c1, c2) s) ∧ c1 ≤ 11 ∧ (c1 = 1 → c2 < nv) ∧ (nv ≤ 16 → c2 ≤ 9999) ∧ (c1 = 2 → 1 ≤ c2) ∧
    ((c1 ≤ 1 ∧ ∀ x a, ev1 env (c1, c2) s = made env c1 c2 x a :: s) ∨ (1 < c1 ∧ c1 ≤ 3 ∧ ∃ a r, s = a :: r ∧ ∀ x, ev1 env (c1, c2) s = made env c1 c2 x a :: r) ∨ (3 < c1 ∧ ∃ a x r, s = a :: x :: r ∧ ev1 env (c1, c2) s = made env c1 c2 x a :: r ∧ (9 < c1 → (a = 0 ∨ a = 1) ∧ (x = 0 ∨ x = 1)))) := by
  rcases ty1_cases h with ⟨rfl, q, rfl⟩ | ⟨rfl, q, rfl⟩ | ⟨rfl, q, u, rfl, rfl⟩ | ⟨rfl, rfl, u, rfl, rfl⟩ | ⟨k, rfl, u, rfl, rfl⟩ | ⟨k, rfl, u, rfl, rfl⟩ | ⟨k, rfl, u, rfl, rfl⟩
  · exact ⟨⟨fun q => absurd q (by decide), hw⟩, by omega, by omega, fun _ => q, by omega, Or.inl ⟨by omega, fun _ _ => rfl⟩⟩
  · exact ⟨⟨fun q => absurd q (by decide), hw⟩, by omega, fun _ => q, fun _ => by omega, by omega, Or.inl ⟨by omega, fun _ _ => rfl⟩⟩
  · obtain ⟨a, r, rfl, h1, h2⟩ := wt_cons hw
    exact ⟨⟨fun q => absurd q (by decide), h2⟩, by omega, by omega, fun _ => q.2, fun _ => q.1, Or.inr (Or.inl ⟨by omega, by omega, a, r, rfl, fun _ => rfl⟩)⟩
  · obtain ⟨a, r, rfl, h1, h2⟩ := wt_cons hw
    refine ⟨⟨fun _ => ?_, h2⟩, by omega, by omega, fun _ => by omega, by omega, Or.inr (Or.inl ⟨by omega, by omega, a, r, rfl, fun _ => rfl⟩)⟩
    show 1 - a = 0 ∨ 1 - a = 1
    rcases h1 rfl with q | q
    · subst q; exact Or.inr (by decide)
    · subst q; exact Or.inl (by decide)
  · obtain ⟨a, s1, rfl, h1, h2⟩ := wt_cons hw
    obtain ⟨x, r, rfl, h3, h4⟩ := wt_cons h2
    rcases k with rfl | rfl | rfl
    · exact ⟨⟨fun q => absurd q (by decide), h4⟩, by omega, by omega, fun _ => by omega, by omega, Or.inr (Or.inr ⟨by omega, a, x, r, rfl, rfl, by omega⟩)⟩
    · exact ⟨⟨fun q => absurd q (by decide), h4⟩, by omega, by omega, fun _ => by omega, by omega, Or.inr (Or.inr ⟨by omega, a, x, r, rfl, rfl, by omega⟩)⟩
    · exact ⟨⟨fun q => absurd q (by decide), h4⟩, by omega, by omega, fun _ => by omega, by omega, Or.inr (Or.inr ⟨by omega, a, x, r, rfl, rfl, by omega⟩)⟩
  · obtain ⟨a, s1, rfl, h1, h2⟩ := wt_cons hw
    obtain ⟨x, r, rfl, h3, h4⟩ := wt_cons h2
    have bit : ∀ (p : Prop) [Decidable p], (if p then (1 : Int32) else 0) = 0 ∨ (if p then (1 : Int32) else 0) = 1 := by
      intro p _; split
      · exact Or.inr rfl
      · exact Or.inl rfl
    rcases k with rfl | rfl | rfl
    · exact ⟨⟨fun _ => bit (x < a), h4⟩, by omega, by omega, fun _ => by omega, by omega, Or.inr (Or.inr ⟨by omega, a, x, r, rfl, rfl, by omega⟩)⟩
    · exact ⟨⟨fun _ => bit (x = a), h4⟩, by omega, by omega, fun _ => by omega, by omega, Or.inr (Or.inr ⟨by omega, a, x, r, rfl, rfl, by omega⟩)⟩
    · exact ⟨⟨fun _ => bit (a < x), h4⟩, by omega, by omega, fun _ => by omega, by omega, Or.inr (Or.inr ⟨by omega, a, x, r, rfl, rfl, by omega⟩)⟩
  · obtain ⟨a, s1, rfl, h1, h2⟩ := wt_cons hw
    obtain ⟨x, r, rfl, h3, h4⟩ := wt_cons h2
    have ha := h1 rfl
    have hx := h3 rfl
    rcases k with rfl | rfl
    · refine ⟨⟨fun _ => ?_, h4⟩, by omega, by omega, fun _ => by omega, by omega, Or.inr (Or.inr ⟨by omega, a, x, r, rfl, rfl, fun _ => ⟨ha, hx⟩⟩)⟩
      show x &&& a = 0 ∨ x &&& a = 1
      rcases ha with rfl | rfl <;> rcases hx with rfl | rfl <;> decide
    · refine ⟨⟨fun _ => ?_, h4⟩, by omega, by omega, fun _ => by omega, by omega, Or.inr (Or.inr ⟨by omega, a, x, r, rfl, rfl, fun _ => ⟨ha, hx⟩⟩)⟩
      show x ||| a = 0 ∨ x ||| a = 1
      rcases ha with rfl | rfl <;> rcases hx with rfl | rfl <;> decide
theorem work_s (b v f : Nat) (σ : St) (x y z : Int32) : fX9_work_6 b v (f + 1) σ x y z = fX9_work_6B b v (fX9_work_6 b v f) σ x y z := rfl
/-- code at work in the class -/
theorem work_C {b v nv to : Nat} {env : Nat → Int32} (hb : ¬ v = b + 6) (hto : to ≤ 600) (hv : aaN v = nv) (hnv : nv ≤ 16) : ∀ (C : Cd) (t t' : List Bool) (s : List Int32) (at_ f : Nat) (σ : St), tyC nv C t = some t' → wt t s → s.length ≤ 28 → stk (σ (b + 6)) 2 s → at_ + C.length = to → C.length < f → (∀ i c, C[i]? = some c → σ (b + 1) (at_ + i) = nI (c.1 * 16384 + c.2)) → (∀ j, j < nv → σ v j = env j) → ∃ σ', fX9_work_6 b v f σ (nI to) (nI (2 + s.length)) (nI at_) = fX9_work_348 b v σ' (nI (2 + (evC env C s).length)) ∧ (∀ a, ¬ a = b + 6 → σ' a = σ a) ∧ stk (σ' (b + 6)) 2 (evC env C s) ∧ wt t' (evC env C s) := by
  intro C
  induction C with
  | nil =>
    intro t t' s at_ f σ hty hw hl hs hat hf hst he
    obtain ⟨f, rfl⟩ : ∃ g, f = g + 1 := ⟨f - 1, by omega⟩
    rw [work_s]; unfold fX9_work_6B
    simp only [List.length_nil] at hat
    rw [if_pos (nI_le (by omega) (by omega))]
    have : t = t' := Option.some.inj hty
    subst this
    exact ⟨σ, rfl, fun _ _ => rfl, hs, hw⟩
  | cons c C ih =>
    intro t t' s at_ f σ hty hw hl hs hat hf hst he
    obtain ⟨f, rfl⟩ : ∃ g, f = g + 1 := ⟨f - 1, by omega⟩
    simp only [List.length_cons] at hat hf
    obtain ⟨c1, c2⟩ := c
    unfold tyC at hty
    cases h1 : ty1 nv (c1, c2) t with
    | none => rw [h1] at hty; exact absurd hty (by simp)
    | some u =>
      rw [h1] at hty
      simp only at hty
      by_cases lu : u.length ≤ 28
      rotate_left
      · rw [if_neg lu] at hty; exact absurd hty (by simp)
      rw [if_pos lu] at hty
      obtain ⟨w1, k1, k2, k3, k4, k5⟩ := ev1_made (env := env) h1 hw
      have l1 := wt_len w1
      have st0 : σ (b + 1) at_ = nI (c1 * 16384 + c2) := hst 0 (c1, c2) rfl
      have go : ∀ (m : Int32) (r : List Int32), ev1 env (c1, c2) s = m :: r → stk (σ (b + 6)) 2 r → ∃ σ', fX9_work_6 b v f (st_put σ (b + 6) (2 + r.length) m) (nI to) (nI (2 + (r.length + 1))) (nI at_ + 1) = fX9_work_348 b v σ' (nI (2 + (evC env ((c1, c2) :: C) s).length)) ∧ (∀ a, ¬ a = b + 6 → σ' a = σ a) ∧ stk (σ' (b + 6)) 2 (evC env ((c1, c2) :: C) s) ∧ wt t' (evC env ((c1, c2) :: C) s) := by
        intro m r e hr
        rw [e] at w1 l1
        simp only [List.length_cons] at l1
        obtain ⟨σ', i1, i2, i3, i4⟩ := ih u t' (m :: r) (at_ + 1) f (st_put σ (b + 6) (2 + r.length) m) hty w1 (by simp only [List.length_cons]; omega) (by rw [sp_same]; exact stk_push hr) (by omega) (by omega) (fun i c hi => by rw [sp_ne (by omega), Nat.add_assoc, Nat.add_comm 1 i]; exact hst (i + 1) c hi) (fun j hj => by rw [sp_ne hb]; exact he j hj)
        rw [← nI_succ]
        rw [show evC env ((c1, c2) :: C) s = evC env C (m :: r) by rw [← e]; rfl]
        exact ⟨σ', i1, fun a ha => by rw [i2 a ha, sp_ne ha], i3, i4⟩
      rw [work_s, work_at (nv := nv) (env := env) hl (by omega) hto st0 k1 (k3 hnv) hv hnv k2 k4 he]
      rcases k5 with ⟨q1, q2⟩ | ⟨q1, q2, a, r, rfl, q3⟩ | ⟨q1, a, x, r, rfl, q2, _⟩
      · rw [w305_1 q1 (by omega)]
        exact go _ s (q2 _ _) hs
      · simp only [List.length_cons] at hl ⊢
        rw [w305_2 q1 q2 (by omega), show σ (b + 6) (1 + (r.length + 1)) = a by rw [show 1 + (r.length + 1) = 2 + r.length by omega]; exact hs.1]
        exact go _ r (q3 _) hs.2
      · simp only [List.length_cons] at hl ⊢
        rw [w305_3 q1 k1 (by omega), show σ (b + 6) (1 + (r.length + 1 + 1)) = a by rw [show 1 + (r.length + 1 + 1) = 2 + (r.length + 1) by omega]; exact hs.1, show σ (b + 6) (r.length + 1 + 1) = x by rw [show r.length + 1 + 1 = 2 + r.length by omega]; exact hs.2.1]
        exact go _ r q2 hs.2.2
