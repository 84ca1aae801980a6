/-! places that are written before they are read -/
def scrC (a : Nat) : Bool := a == 17 || a == 18 || (20 ≤ a && a ≤ 23) || a == 26 || a == 27 || a == 29 || a == 33 || a == 40 || a == 50 || a == 57 || a == 64
def scrM (a : Nat) : Bool := (24 ≤ a && a ≤ 26) || a == 28 || a == 34
theorem scrC_of {a : Nat} (h : chC a = false) : scrC a = false := by
  unfold chC at h; unfold scrC
  simp only [Bool.or_eq_false_iff, Bool.and_eq_false_iff, decide_eq_false_iff_not, beq_eq_false_iff_ne] at h ⊢
  omega
theorem scrM_of {a : Nat} (h : chM a = false) : scrM a = false := by
  unfold chM at h; unfold scrM
  simp only [Bool.or_eq_false_iff, Bool.and_eq_false_iff, decide_eq_false_iff_not, beq_eq_false_iff_ne] at h ⊢
  omega
theorem rel_scr {σ σ' τ τ' : St} (h : Rel σ τ) (hC : ∀ a, scrC a = false → σ' a = σ a) (hM : ∀ a, scrM a = false → τ' a = τ a) : Rel σ' τ' := by
  refine rel_body h (fun a ha => hC a (scrC_of ha)) (fun a ha => hM a (scrM_of ha)) (fun j _ => by rw [hM 0 rfl]) ?_ ?_ ?_ ?_ ?_ ?_ ?_ ?_ ?_ ?_ ?_
  · rw [hC 5 rfl, hC 6 rfl, hC 7 rfl, hC 8 rfl, hC 9 rfl, hM 3 rfl, hM 4 rfl]; exact g_pile h
  · rw [hC 5 rfl, hM 0 rfl]; exact g_out h
  · rw [hC 12 rfl]; exact g_stk h
  · rw [hC 19 rfl]; exact g_stkT h
  · rw [hC 13 rfl, hC 14 rfl, hC 15 rfl, hC 16 rfl, hM 5 rfl, hM 6 rfl, hM 7 rfl, hM 8 rfl]; exact g_holds h
  · rw [hC 12 rfl, hM 9 rfl]; exact g_well h
  · rw [hC 10 rfl, hM 0 rfl]; exact g_sea h
  · rw [hC 10 rfl, hM 10 rfl]; exact g_state h
  · rw [hC 10 rfl, hM 11 rfl]; exact g_lean h
  · rw [hC 10 rfl, hM 12 rfl]; exact g_gone h
  · rw [hC 10 rfl, hM 0 rfl]; exact g_limit h
theorem rs_kept {σ τ : St} {n : Nat} (h : Rel σ τ) : Rel σ (st_put τ 29 n (nI (worstN n + 1000))) := by
  obtain ⟨h1, h2, h3, h4, h5, h6, h7, h8, h9, h10, h11, h12, h13, h14, h15, h16, h17, h18, h19, h20, h21, h22, h23, h24, h25, h26⟩ := h
  have e : ∀ a, ¬ a = 29 → st_put τ 29 n (nI (worstN n + 1000)) a = τ a := fun a ha => sp_ne ha
  have e0 := e 0 (by omega)
  refine ⟨by rw [e0]; exact h1, by rw [e0]; exact h2, by rw [e0]; exact h3, by rw [e0]; exact h4, by rw [e0]; exact h5, by rw [e 1 (by omega), e 2 (by omega)]; exact h6, by rw [e 3 (by omega), e 4 (by omega)]; exact h7, by rw [e0]; exact h8, h9, h10, by rw [e 5 (by omega), e 6 (by omega), e 7 (by omega), e 8 (by omega)]; exact h11, by rw [e 9 (by omega)]; exact h12, by rw [e0]; exact h13, by rw [e 10 (by omega)]; exact h14, by rw [e 11 (by omega)]; exact h15, by rw [e 12 (by omega)]; exact h16, by rw [e0]; exact h17, by rw [e 27 (by omega)]; exact h18, by rw [e0, e 13 (by omega)]; exact h19, by rw [e 14 (by omega)]; exact h20, r_txt_fr h21 (fun _ _ => rfl) rfl rfl rfl rfl rfl (fun a _ _ => e a (by omega)), by rw [e0, e 30 (by omega), e 31 (by omega), e 32 (by omega)]; exact h22, by rw [e 33 (by omega)]; exact h23, by rw [e0, e 35 (by omega)]; exact h24, by rw [e0, e 36 (by omega), e 37 (by omega), e 38 (by omega), e 39 (by omega)]; exact h25, ?_⟩
  intro m hm
  by_cases q : m = n
  · subst q; exact Or.inr (by rw [sp_same, up_same])
  · rw [sp_same, up_ne q]; exact h26 m hm
theorem worst_C : ∀ n, n < 37 → fX10_worstOf (nI n) = nI (worstN n) ∧ worstN n ≤ 60 := by decide +kernel
theorem worst_5 : ∀ n, n < 37 → worstN n ≤ 5 * n := by decide +kernel
theorem worst_M : ∀ n, n < 37 → fX11_worstOf (nI n) = some (nI (worstN n)) := by decide +kernel
theorem kept_spec {σ τ : St} {n : Nat} (hn : n < 37) (h : Rel σ τ) : ∃ τ', fX11_worstKept τ (nI n) = some (nI (worstN n), τ') ∧ Rel σ τ' ∧ τ' 28 = τ 28 := by
  have w6 := (worst_C n hn).2
  have back : nI (worstN n + 1000) - 1000 = nI (worstN n) := by
    rw [show (1000 : Int32) = nI 1000 from rfl, pk_sub (by omega), Nat.add_sub_cancel]
  unfold fX11_worstKept
  rw [p_rdN hn (by omega)]
  rcases g_kept h n (by omega) with q | q
  · rw [if_pos q, worst_M n hn, p_cq, show (1000 : Int32) = nI 1000 from rfl, nI_add, p_wrN hn (by omega), p_rdN hn (by omega), sp_same, up_same]
    exact ⟨_, by rw [show nI 1000 = (1000 : Int32) from rfl, back], rs_kept h, sp_ne (by omega)⟩
  · rw [if_neg (fun e => by rw [q] at e; exact absurd ((nI_e0 (by omega)).mp e) (by omega)), p_rdN hn (by omega), q, back]
    exact ⟨τ, rfl, h, rfl⟩
/-- what is found so far of n cells: nothing, or v at a, b, c, d -/
def spJ (n : Nat) (L w B y : Int32) (τ : St) : Prop := (y = 0 ∧ L = nI (5 * n + 1)) ∨ (y = 1 ∧ ∃ v a b c d : Nat, v ≤ 240 ∧ a < 37 ∧ b < 37 ∧ c < 37 ∧ d < 37 ∧ L = nI v ∧ B = nI v ∧ w = nI (((a * 64 + b) * 64 + c) * 64 + d) ∧ τ 28 0 = nI a ∧ τ 28 1 = nI b ∧ τ 28 2 = nI c ∧ τ 28 3 = nI d)
theorem spC_s (r : Int32 → Int32 → Int32 → Int32 → Int32 → Int32 → Option Int32) (f : Nat) (a b c d e g h i j : Int32) : fX10_split_82 r (f + 1) a b c d e g h i j = fX10_split_82B r (fX10_split_82 r f) a b c d e g h i j := rfl
theorem spM_s (r : St → Int32 → Int32 → Int32 → Int32 → Int32 → Int32 → Option (Int32 × St)) (f : Nat) (τ : St) (a b c d e g h : Int32) : fX11_split_57 r (f + 1) τ a b c d e g h = fX11_split_57B r (fX11_split_57 r f) τ a b c d e g h := rfl
/-- the four numbers of the model, when the last can be -/
theorem four_spec {σ τ : St} {a b c d : Nat} (ha : a < 37) (hb : b < 37) (hc : c < 37) (hd : d < 37) (h : Rel σ τ) {β : Type} (K : Int32 → Int32 → Int32 → Int32 → St → Option β) : ∃ τ', (cb (fX11_worstKept τ (nI a)) fun r3 σ5 => cb (fX11_worstKept σ5 (nI b)) fun r6 σ8 => cb (fX11_worstKept σ8 (nI c)) fun r9 σ11 => cb (fX11_worstKept σ11 (nI d)) fun r12 σ14 => K r3 r6 r9 r12 σ14) = K (nI (worstN a)) (nI (worstN b)) (nI (worstN c)) (nI (worstN d)) τ' ∧ Rel σ τ' ∧ τ' 28 = τ 28 := by
  obtain ⟨τ1, e1, h1, k1⟩ := kept_spec ha h
  obtain ⟨τ2, e2, h2, k2⟩ := kept_spec hb h1
  obtain ⟨τ3, e3, h3, k3⟩ := kept_spec hc h2
  obtain ⟨τ4, e4, h4, k4⟩ := kept_spec hd h3
  refine ⟨τ4, ?_, h4, by rw [k4, k3, k2, k1]⟩
  rw [e1, p_cb, e2, p_cb, e3, p_cb, e4, p_cb]
theorem isIn_sub {n a b c : Nat} (hn : n ≤ 144) (ha : a < 37) (hb : b < 37) (hc : c < 37) : (a + b + c ≤ n ∧ n - a - b - c < 37 ∧ nI n - nI a - nI b - nI c = nI (n - a - b - c) ∧ fX11_isIn (nI n - nI a - nI b - nI c) 0 36 = 1 ∧ fX10_within (nI n - nI a - nI b - nI c) 37 = 1) ∨ (¬ (a + b + c ≤ n ∧ n - a - b - c < 37) ∧ fX11_isIn (nI n - nI a - nI b - nI c) 0 36 = 0 ∧ fX10_within (nI n - nI a - nI b - nI c) 37 = 0) := by
  have e : (nI n - nI a - nI b - nI c).toInt = (n : Int) - a - b - c := by
    rw [show nI n - nI a - nI b - nI c = nI n - nI (a + b + c) by rw [← nI_add, ← nI_add]; grind, pk_sub_toInt (by omega) (by omega)]
    omega
  by_cases q : a + b + c ≤ n ∧ n - a - b - c < 37
  · left
    have e2 : nI n - nI a - nI b - nI c = nI (n - a - b - c) := by
      rw [pk_sub (by omega), pk_sub (by omega), pk_sub (by omega)]
    refine ⟨q.1, q.2, e2, ?_, ?_⟩
    · rw [e2]; exact ii_t ⟨nI_pos' (by omega), nI_le (b := 36) (by omega) (by omega)⟩
    · rw [e2]; exact wi_t ⟨nI_pos' (by omega), nI_lt (b := 37) q.2 (by omega)⟩
  · right
    refine ⟨q, ii_f ?_, wi_f ?_⟩
    · rintro ⟨q1, q2⟩
      rw [Int32.le_iff_toInt_le, e] at q1 q2
      simp at q1 q2
      omega
    · rintro ⟨q1, q2⟩
      rw [Int32.le_iff_toInt_le, e] at q1
      rw [Int32.lt_iff_toInt_lt, e] at q2
      simp at q1 q2
      omega
/-- nothing less is left: the model goes on to the next b -/
theorem stale {σ : St} {r : St → Int32 → Int32 → Int32 → Int32 → Int32 → Int32 → Option (Int32 × St)} {n a b v : Nat} {x2 : Int32} (hn : n ≤ 144) (ha : a < 37) (hb : b < 37) (hv : v ≤ worstN a + worstN b) : ∀ (d c f : Nat) (τ : St), c + d = 37 → d < f → Rel σ τ → ∃ τ', fX11_split_57 r f τ (nI n) x2 (nI v) 1 (nI a) (nI b) (nI c) = r τ' (nI n) x2 (nI v) 1 (nI a) (nI b + 1) ∧ Rel σ τ' ∧ τ' 28 = τ 28 := by
  have wa := (worst_C a ha).2
  have wb := (worst_C b hb).2
  intro d
  induction d with
  | zero =>
    intro c f τ hc hf h
    obtain ⟨f, rfl⟩ : ∃ g, f = g + 1 := ⟨f - 1, by omega⟩
    rw [spM_s]; unfold fX11_split_57B
    rw [if_pos (show 36 < nI c from nI_lt (a := 36) (by omega) (by omega))]
    exact ⟨τ, rfl, h, rfl⟩
  | succ d ih =>
    intro c f τ hc hf h
    obtain ⟨f, rfl⟩ : ∃ g, f = g + 1 := ⟨f - 1, by omega⟩
    rw [spM_s]; unfold fX11_split_57B
    rw [if_neg (show ¬ 36 < nI c from nI_nlt (a := 36) (b := c) (by omega) (by omega)), show nI c + 1 = nI (c + 1) from (nI_succ c).symm]
    rcases isIn_sub hn ha hb (show c < 37 by omega) with ⟨q1, q2, q3, q4, q5⟩ | ⟨q1, q4, q5⟩
    · rw [q4, if_neg n10, q3]
      obtain ⟨τ1, e1, h1, k1⟩ := four_spec ha hb (show c < 37 by omega) q2 h (fun r3 r6 r9 r12 σ14 => if (1 : Int32) = 0 then fX11_split_134 (fX11_split_57 r f) σ14 (nI n) x2 (nI a) (nI b) (nI c) (nI (n - a - b - c)) (((r3 + r6) + r9) + r12) else if (((r3 + r6) + r9) + r12) < nI v then fX11_split_134 (fX11_split_57 r f) σ14 (nI n) x2 (nI a) (nI b) (nI c) (nI (n - a - b - c)) (((r3 + r6) + r9) + r12) else fX11_split_57 r f σ14 (nI n) x2 (nI v) 1 (nI a) (nI b) (nI (c + 1)))
      rw [e1, if_neg n10, nI_add, nI_add, nI_add]
      have wc := (worst_C c (by omega)).2
      have wd := (worst_C (n - a - b - c) q2).2
      rw [if_neg (nI_nlt (by omega) (by omega))]
      obtain ⟨τ2, e2, h2, k2⟩ := ih (c + 1) f τ1 (by omega) (by omega) h1
      exact ⟨τ2, e2, h2, by rw [k2, k1]⟩
    · rw [q4, if_pos rfl]
      exact ih (c + 1) f τ (by omega) (by omega) h
/-- where the last can't be, the model goes on to the next c -/
theorem skipM {r : St → Int32 → Int32 → Int32 → Int32 → Int32 → Int32 → Option (Int32 × St)} {n a b : Nat} {x2 Bs y : Int32} {τ : St} (hn : n ≤ 144) (ha : a < 37) (hb : b < 37) : ∀ (k c f : Nat), c + k ≤ 37 → (∀ j, j < k → ¬ (a + b + (c + j) ≤ n ∧ n - a - b - (c + j) < 37)) → fX11_split_57 r (f + k) τ (nI n) x2 Bs y (nI a) (nI b) (nI c) = fX11_split_57 r f τ (nI n) x2 Bs y (nI a) (nI b) (nI (c + k)) := by
  intro k
  induction k with
  | zero => intro c f _ _; rfl
  | succ k ih =>
    intro c f hc hq
    rw [show f + (k + 1) = (f + k) + 1 from rfl, spM_s]; unfold fX11_split_57B
    rw [if_neg (show ¬ 36 < nI c from nI_nlt (a := 36) (b := c) (by omega) (by omega)), show nI c + 1 = nI (c + 1) from (nI_succ c).symm]
    rcases isIn_sub hn ha hb (show c < 37 by omega) with ⟨q1, q2, _, _, _⟩ | ⟨_, q4, _⟩
    · exact absurd ⟨q1, q2⟩ (hq 0 (by omega))
    · rw [q4, if_pos rfl, ih (c + 1) f (by omega) (fun j hj => by have := hq (j + 1) (by omega); rwa [show c + 1 + j = c + (j + 1) by omega]), show c + 1 + k = c + (k + 1) by omega]
/-- nothing can be any more: the model goes on to the next b -/
theorem skipOut {r : St → Int32 → Int32 → Int32 → Int32 → Int32 → Int32 → Option (Int32 × St)} {n a b c f : Nat} {x2 Bs y : Int32} {τ : St} (hn : n ≤ 144) (ha : a < 37) (hb : b < 37) (hc : c ≤ 37) (hf : 37 - c < f) (hq : ∀ j, c ≤ j → j < 37 → ¬ (a + b + j ≤ n ∧ n - a - b - j < 37)) : fX11_split_57 r f τ (nI n) x2 Bs y (nI a) (nI b) (nI c) = r τ (nI n) x2 Bs y (nI a) (nI b + 1) := by
  obtain ⟨g, rfl⟩ : ∃ g, f = g + 1 + (37 - c) := ⟨f - 1 - (37 - c), by omega⟩
  rw [skipM hn ha hb (37 - c) c (g + 1) (by omega) (fun j hj => hq (c + j) (by omega) (by omega)), show c + (37 - c) = 37 by omega, spM_s]; unfold fX11_split_57B
  rw [if_pos (show 36 < nI 37 from nI_lt (a := 36) (by omega) (by omega))]
theorem left_toInt {n a b : Nat} (hn : n ≤ 144) (ha : a < 37) (hb : b < 37) : (nI n - nI a - nI b).toInt = (n : Int) - a - b := by
  rw [show nI n - nI a - nI b = nI n - nI (a + b) by rw [← nI_add]; grind, pk_sub_toInt (by omega) (by omega)]
  omega
theorem left_lt {n a b c : Nat} (hn : n ≤ 144) (ha : a < 37) (hb : b < 37) (hc : c ≤ 144) : nI n - nI a - nI b < nI c ↔ ¬ (a + b + c ≤ n) := by
  rw [Int32.lt_iff_toInt_lt, left_toInt hn ha hb, nI_toInt (by omega)]
  omega
/-- where the class begins with c -/
theorem low_C {n a b : Nat} (hn : n ≤ 144) (ha : a < 37) (hb : b < 37) : (if 0 < nI n - nI a - nI b - 36 then nI n - nI a - nI b - 36 else 0) = nI (n - a - b - 36) := by
  have e : (nI n - nI a - nI b - 36).toInt = (n : Int) - a - b - 36 := by
    rw [show nI n - nI a - nI b - 36 = nI n - nI (a + b + 36) by rw [← nI_add (a + b) 36, ← nI_add a b, show nI 36 = (36 : Int32) from rfl]; grind, pk_sub_toInt (by omega) (by omega)]
    omega
  by_cases q : a + b + 36 < n
  · rw [if_pos (by rw [Int32.lt_iff_toInt_lt, e]; simp; omega), show (36 : Int32) = nI 36 from rfl, pk_sub (by omega), pk_sub (by omega), pk_sub (by omega)]
  · rw [if_neg (by rw [Int32.lt_iff_toInt_lt, e]; simp; omega), show n - a - b - 36 = 0 by omega]; rfl
/-- the innermost loop, both sides, from where the last is no more than 36 -/
theorem inner_both {σ : St} {rC : Int32 → Int32 → Int32 → Int32 → Int32 → Int32 → Option Int32} {rM : St → Int32 → Int32 → Int32 → Int32 → Int32 → Int32 → Option (Int32 × St)} {n a b A B C : Nat} {x2 : Int32} (hn : n ≤ 144) (ha : a < 37) (hb : b < 37) (hA : A + B + C ≤ n ∧ n - A - B - C < 37 ∧ C < 37)
    (hk : ∀ L w Bs y τ, spJ n L w Bs y τ → Rel σ τ → (y = 1 ∨ a < A ∨ (a = A ∧ b < B)) → ∃ r τ', rC (nI n) x2 L w (nI a) (nI b + 1) = some r ∧ rM τ (nI n) x2 Bs y (nI a) (nI b + 1) = some (r, τ') ∧ Rel σ τ') : ∀ (d c f f' : Nat) (τ : St) (L w Bs y : Int32), c + d = 37 → n ≤ a + b + c + 36 → d < f → d < f' → spJ n L w Bs y τ → Rel σ τ → (y = 1 ∨ a < A ∨ (a = A ∧ (b < B ∨ (b = B ∧ c ≤ C)))) → ∃ r τ', fX10_split_82 rC f (nI n) x2 L w (nI a) (nI b) (nI (worstN a + worstN b)) (nI n - nI a - nI b) (nI c) = some r ∧ fX11_split_57 rM f' τ (nI n) x2 Bs y (nI a) (nI b) (nI c) = some (r, τ') ∧ Rel σ τ' := by
  have wa := (worst_C a ha).2
  have wb := (worst_C b hb).2
  have va := worst_5 a ha
  have vb := worst_5 b hb
  intro d
  induction d with
  | zero =>
    intro c f f' τ L w Bs y hc hlo hf hf' hJ h hp
    obtain ⟨f, rfl⟩ : ∃ g, f = g + 1 := ⟨f - 1, by omega⟩
    have eC : fX10_split_82 rC (f + 1) (nI n) x2 L w (nI a) (nI b) (nI (worstN a + worstN b)) (nI n - nI a - nI b) (nI c) = rC (nI n) x2 L w (nI a) (nI b + 1) := by
      rw [spC_s]; unfold fX10_split_82B
      rw [if_pos (show 36 < nI c from nI_lt (a := 36) (by omega) (by omega)), ite_self]
    rw [eC, skipOut hn ha hb (by omega) (by omega) (fun j h1 h2 => by omega)]
    exact hk L w Bs y τ hJ h (by rcases hp with hp | hp
                                 · exact Or.inl hp
                                 · exact Or.inr (by omega))
  | succ d ih =>
    intro c f f' τ L w Bs y hc hlo hf hf' hJ h hp
    obtain ⟨f, rfl⟩ : ∃ g, f = g + 1 := ⟨f - 1, by omega⟩
    have c37 : c < 37 := by omega
    have wc := (worst_C c c37).2
    have vc := worst_5 c c37
    by_cases q1 : a + b + c ≤ n
    rotate_left
    · -- no more is left: both go on to the next b
      have eC : fX10_split_82 rC (f + 1) (nI n) x2 L w (nI a) (nI b) (nI (worstN a + worstN b)) (nI n - nI a - nI b) (nI c) = rC (nI n) x2 L w (nI a) (nI b + 1) := by
        rw [spC_s]; unfold fX10_split_82B
        rw [if_pos ((left_lt hn ha hb (by omega)).mpr q1)]
      rw [eC, skipOut hn ha hb (by omega) (by omega) (fun j h1 h2 => by omega)]
      exact hk L w Bs y τ hJ h (by rcases hp with hp | hp
                                   · exact Or.inl hp
                                   · exact Or.inr (by omega))
    have q2 : n - a - b - c < 37 := by omega
    have nl : ¬ nI n - nI a - nI b < nI c := fun q => (left_lt hn ha hb (by omega)).mp q q1
    by_cases st : L ≤ nI (worstN a + worstN b)
    · -- the class goes on to the next b
      have eC : fX10_split_82 rC (f + 1) (nI n) x2 L w (nI a) (nI b) (nI (worstN a + worstN b)) (nI n - nI a - nI b) (nI c) = rC (nI n) x2 L w (nI a) (nI b + 1) := by
        rw [spC_s]; unfold fX10_split_82B
        rw [if_neg nl, if_neg (show ¬ 36 < nI c from nI_nlt (a := 36) (b := c) (by omega) (by omega)), if_pos st]
      rcases hJ with ⟨j1, j2⟩ | ⟨j1, v, p1, p2, p3, p4, v1, b1, b2, b3, b4, j2, j3, j4, j5, j6, j7, j8⟩
      · exfalso
        rw [j2] at st
        have := (nI_leI (by omega) (by omega)).mp st
        omega
      · subst j1
        subst j3
        rw [j2] at st
        have hv := (nI_leI (by omega) (by omega)).mp st
        obtain ⟨τ1, e1, h1, k1⟩ := stale (r := rM) (x2 := x2) hn ha hb hv (d + 1) c f' τ hc hf' h
        rw [eC, e1]
        refine hk L w (nI v) 1 τ1 (Or.inr ⟨rfl, v, p1, p2, p3, p4, v1, b1, b2, b3, b4, j2, rfl, j4, ?_, ?_, ?_, ?_⟩) h1 (Or.inl rfl)
        · rw [k1]; exact j5
        · rw [k1]; exact j6
        · rw [k1]; exact j7
        · rw [k1]; exact j8
    · obtain ⟨f', rfl⟩ : ∃ g, f' = g + 1 := ⟨f' - 1, by omega⟩
      have wd := (worst_C (n - a - b - c) q2).2
      have vd := worst_5 (n - a - b - c) q2
      have q4 : fX11_isIn (nI n - nI a - nI b - nI c) 0 36 = 1 := by
        rcases isIn_sub hn ha hb c37 with ⟨_, _, _, q4, _⟩ | ⟨q, _, _⟩
        · exact q4
        · exact absurd ⟨q1, q2⟩ q
      have q3 : nI n - nI a - nI b - nI c = nI (n - a - b - c) := by
        rw [pk_sub (by omega), pk_sub (by omega), pk_sub (by omega)]
      rw [spM_s, spC_s]; unfold fX11_split_57B fX10_split_82B
      rw [if_neg nl, if_neg (show ¬ 36 < nI c from nI_nlt (a := 36) (b := c) (by omega) (by omega)), if_neg (show ¬ 36 < nI c from nI_nlt (a := 36) (b := c) (by omega) (by omega)), if_neg st, show nI c + 1 = nI (c + 1) from (nI_succ c).symm]
      rw [q4, if_neg n10, q3]
      obtain ⟨τ1, e1, h1, k1⟩ := four_spec ha hb c37 q2 h (fun r3 r6 r9 r12 σ14 => if y = 0 then fX11_split_134 (fX11_split_57 rM f') σ14 (nI n) x2 (nI a) (nI b) (nI c) (nI (n - a - b - c)) (((r3 + r6) + r9) + r12) else if (((r3 + r6) + r9) + r12) < Bs then fX11_split_134 (fX11_split_57 rM f') σ14 (nI n) x2 (nI a) (nI b) (nI c) (nI (n - a - b - c)) (((r3 + r6) + r9) + r12) else fX11_split_57 rM f' σ14 (nI n) x2 Bs y (nI a) (nI b) (nI (c + 1)))
      have eW : ((nI a * 64 + nI b) * 64 + nI c) * 64 + (nI n - nI a - nI b) - nI c = nI (((a * 64 + b) * 64 + c) * 64 + (n - a - b - c)) := by
        rw [show ((nI a * 64 + nI b) * 64 + nI c) * 64 + (nI n - nI a - nI b) - nI c = ((nI a * 64 + nI b) * 64 + nI c) * 64 + (nI n - nI a - nI b - nI c) by grind, q3, show (64 : Int32) = nI 64 from rfl, pk_mul, nI_add, pk_mul, nI_add, pk_mul, nI_add]
      rw [e1, (worst_C c c37).1, (worst_C _ q2).1, nI_add, nI_add, nI_add, nI_add, nI_add]
      simp only [p_nm]
      rw [eW]
      have take : ∃ r τ', fX10_split_82 rC f (nI n) x2 (nI (worstN a + worstN b + worstN c + worstN (n - a - b - c))) (nI (((a * 64 + b) * 64 + c) * 64 + (n - a - b - c))) (nI a) (nI b) (nI (worstN a + worstN b)) (nI n - nI a - nI b) (nI (c + 1)) = some r ∧ fX11_split_134 (fX11_split_57 rM f') τ1 (nI n) x2 (nI a) (nI b) (nI c) (nI (n - a - b - c)) (nI (worstN a + worstN b + worstN c + worstN (n - a - b - c))) = some (r, τ') ∧ Rel σ τ' := by
        unfold fX11_split_134
        rw [show (wrK 4 τ1 28 0 (nI a) : (St → Option (Int32 × St)) → _) = wrK 4 τ1 28 (nI 0) (nI a) from rfl, p_wrN (by omega) (by omega)]
        rw [show (wrK 4 (st_put τ1 28 0 (nI a)) 28 1 (nI b) : (St → Option (Int32 × St)) → _) = wrK 4 (st_put τ1 28 0 (nI a)) 28 (nI 1) (nI b) from rfl, p_wrN (by omega) (by omega)]
        rw [show (wrK 4 (st_put (st_put τ1 28 0 (nI a)) 28 1 (nI b)) 28 2 (nI c) : (St → Option (Int32 × St)) → _) = wrK 4 (st_put (st_put τ1 28 0 (nI a)) 28 1 (nI b)) 28 (nI 2) (nI c) from rfl, p_wrN (by omega) (by omega)]
        rw [show (wrK 4 (st_put (st_put (st_put τ1 28 0 (nI a)) 28 1 (nI b)) 28 2 (nI c)) 28 3 (nI (n - a - b - c)) : (St → Option (Int32 × St)) → _) = wrK 4 (st_put (st_put (st_put τ1 28 0 (nI a)) 28 1 (nI b)) 28 2 (nI c)) 28 (nI 3) (nI (n - a - b - c)) from rfl, p_wrN (by omega) (by omega)]
        rw [show nI c + 1 = nI (c + 1) from (nI_succ c).symm]
        refine ih (c + 1) f f' _ _ _ _ _ (by omega) (by omega) (by omega) (by omega) (Or.inr ⟨rfl, _, a, b, c, n - a - b - c, ?_, ha, hb, c37, q2, rfl, rfl, rfl, ?_, ?_, ?_, ?_⟩) (rel_scr h1 (fun _ _ => rfl) (fun a ha => ?_)) (Or.inl rfl)
        · omega
        · simp [st_put, st_row, upd]
        · simp [st_put, st_row, upd]
        · simp [st_put, st_row, upd]
        · simp [st_put, st_row, upd]
        · unfold scrM at ha
          simp only [Bool.or_eq_false_iff, Bool.and_eq_false_iff, decide_eq_false_iff_not, beq_eq_false_iff_ne] at ha
          rw [sp_ne (by omega), sp_ne (by omega), sp_ne (by omega), sp_ne (by omega)]
      rcases hJ with ⟨j1, j2⟩ | ⟨j1, v, p1, p2, p3, p4, v1, b1, b2, b3, b4, j2, j3, j4, j5, j6, j7, j8⟩
      · rw [if_pos j1, j2, if_neg (fun q => absurd ((nI_leI (by omega) (by omega)).mp q) (by omega))]
        exact take
      · subst j1
        rw [if_neg n10, j2, j3]
        by_cases lt : worstN a + worstN b + worstN c + worstN (n - a - b - c) < v
        · rw [if_pos (nI_lt lt (by omega)), if_neg (fun q => absurd ((nI_leI (by omega) (by omega)).mp q) (by omega))]
          exact take
        · rw [if_neg (nI_nlt (by omega) (by omega)), if_pos (nI_le (by omega) (by omega))]
          refine ih (c + 1) f f' τ1 _ _ _ _ (by omega) (by omega) (by omega) (by omega) (Or.inr ⟨rfl, v, p1, p2, p3, p4, v1, b1, b2, b3, b4, rfl, rfl, j4, ?_, ?_, ?_, ?_⟩) h1 (Or.inl rfl)
          · rw [k1]; exact j5
          · rw [k1]; exact j6
          · rw [k1]; exact j7
          · rw [k1]; exact j8
/-- the innermost loop, both sides, from where each begins -/
theorem inner_start {σ : St} {rC : Int32 → Int32 → Int32 → Int32 → Int32 → Int32 → Option Int32} {rM : St → Int32 → Int32 → Int32 → Int32 → Int32 → Int32 → Option (Int32 × St)} {n a b A B C : Nat} {x2 : Int32} (hn : n ≤ 144) (ha : a < 37) (hb : b < 37) (hA : A + B + C ≤ n ∧ n - A - B - C < 37 ∧ C < 37)
    (hk : ∀ L w Bs y τ, spJ n L w Bs y τ → Rel σ τ → (y = 1 ∨ a < A ∨ (a = A ∧ b < B)) → ∃ r τ', rC (nI n) x2 L w (nI a) (nI b + 1) = some r ∧ rM τ (nI n) x2 Bs y (nI a) (nI b + 1) = some (r, τ') ∧ Rel σ τ') (f f' : Nat) (τ : St) (L w Bs y : Int32) (hf : 37 < f) (hf' : 37 < f') (hJ : spJ n L w Bs y τ) (h : Rel σ τ) (hp : y = 1 ∨ a < A ∨ (a = A ∧ b ≤ B)) : ∃ r τ', fX10_split_82 rC f (nI n) x2 L w (nI a) (nI b) (nI (worstN a + worstN b)) (nI n - nI a - nI b) (nI (n - a - b - 36)) = some r ∧ fX11_split_57 rM f' τ (nI n) x2 Bs y (nI a) (nI b) (nI 0) = some (r, τ') ∧ Rel σ τ' := by
  by_cases q : n - a - b - 36 ≤ 36
  · obtain ⟨g, rfl⟩ : ∃ g, f' = g + (n - a - b - 36) := ⟨f' - (n - a - b - 36), by omega⟩
    rw [skipM hn ha hb (n - a - b - 36) 0 g (by omega) (fun j hj => by omega), Nat.zero_add]
    refine inner_both (A := A) (B := B) (C := C) hn ha hb hA hk (37 - (n - a - b - 36)) (n - a - b - 36) f g τ L w Bs y (by omega) (by omega) (by omega) (by omega) hJ h ?_
    rcases hp with hp | hp
    · exact Or.inl hp
    · exact Or.inr (by omega)
  · obtain ⟨f, rfl⟩ : ∃ g, f = g + 1 := ⟨f - 1, by omega⟩
    have eC : fX10_split_82 rC (f + 1) (nI n) x2 L w (nI a) (nI b) (nI (worstN a + worstN b)) (nI n - nI a - nI b) (nI (n - a - b - 36)) = rC (nI n) x2 L w (nI a) (nI b + 1) := by
      rw [spC_s]; unfold fX10_split_82B
      rw [if_pos (show 36 < nI (n - a - b - 36) from nI_lt (a := 36) (by omega) (by omega)), ite_self]
    rw [eC, skipOut hn ha hb (by omega) (by omega) (fun j h1 h2 => by omega)]
    exact hk L w Bs y τ hJ h (by rcases hp with hp | hp
                                 · exact Or.inl hp
                                 · exact Or.inr (by omega))
theorem shr_nI {a k : Nat} (ha : a < 2147483648) (hk : k < 32) : nI a >>> (nI k &&& 31) = nI (a / 2 ^ k) := by
  have f2 := pk_shr (nI a) (nI k &&& 31) k (sh_s k hk)
  have lt : a / 2 ^ k ≤ a := Nat.div_le_self _ _
  apply Int32.toInt_inj.mp
  rw [f2, nI_toInt ha, nI_toInt (by omega), Int.shiftRight_eq_div_pow]
  norm_cast
theorem and63 {a : Nat} (ha : a < 2147483648) : nI a &&& 63 = nI (a % 64) := by
  have := pk_and (nI a) (m := 63) 6 (by decide)
  rw [this]
  congr 2
  have e := nI_toInt ha
  have g1 : (nI a).toInt = (nI a).toBitVec.toInt := rfl
  rw [g1, BitVec.toInt_eq_toNat_cond] at e
  have b1 := (nI a).toBitVec.isLt
  split at e <;> omega
theorem s42_s (r : Int32 → Int32 → Int32 → Int32 → Int32 → Option Int32) (f : Nat) (a b c d e g : Int32) : fX10_split_42 r (f + 1) a b c d e g = fX10_split_42B r (fX10_split_42 r f) a b c d e g := rfl
theorem s47_s (r : St → Int32 → Int32 → Int32 → Int32 → Int32 → Option (Int32 × St)) (f : Nat) (τ : St) (a b c d e g : Int32) : fX11_split_47 r (f + 1) τ a b c d e g = fX11_split_47B r (fX11_split_47 r f) τ a b c d e g := rfl
theorem s32_s (f : Nat) (a b c d e : Int32) : fX10_split_32 (f + 1) a b c d e = fX10_split_32B (fX10_split_32 f) a b c d e := rfl
theorem s37_s (f : Nat) (τ : St) (a b c d e : Int32) : fX11_split_37 (f + 1) τ a b c d e = fX11_split_37B (fX11_split_37 f) τ a b c d e := rfl
theorem mid_both {σ : St} {rC : Int32 → Int32 → Int32 → Int32 → Int32 → Option Int32} {rM : St → Int32 → Int32 → Int32 → Int32 → Int32 → Option (Int32 × St)} {n a A B C : Nat} {x2 : Int32} (hn : n ≤ 144) (ha : a < 37) (hA : A + B + C ≤ n ∧ n - A - B - C < 37 ∧ C < 37) (hB : B < 37)
    (hk : ∀ L w Bs y τ, spJ n L w Bs y τ → Rel σ τ → (y = 1 ∨ a < A) → ∃ r τ', rC (nI n) x2 L w (nI a + 1) = some r ∧ rM τ (nI n) x2 Bs y (nI a + 1) = some (r, τ') ∧ Rel σ τ') : ∀ (d b f f' : Nat) (τ : St) (L w Bs y : Int32), b + d = 37 → d < f → d < f' → spJ n L w Bs y τ → Rel σ τ → (y = 1 ∨ a < A ∨ (a = A ∧ b ≤ B)) → ∃ r τ', fX10_split_42 rC f (nI n) x2 L w (nI a) (nI b) = some r ∧ fX11_split_47 rM f' τ (nI n) x2 Bs y (nI a) (nI b) = some (r, τ') ∧ Rel σ τ' := by
  intro d
  induction d with
  | zero =>
    intro b f f' τ L w Bs y hc hf hf' hJ h hp
    obtain ⟨f, rfl⟩ : ∃ g, f = g + 1 := ⟨f - 1, by omega⟩
    obtain ⟨f', rfl⟩ : ∃ g, f' = g + 1 := ⟨f' - 1, by omega⟩
    rw [s42_s, s47_s]; unfold fX11_split_47B fX10_split_42B
    rw [if_pos (show 36 < nI b from nI_lt (a := 36) (by omega) (by omega)), if_pos (show 36 < nI b from nI_lt (a := 36) (by omega) (by omega))]
    refine hk L w Bs y τ hJ h ?_
    rcases hp with hp | hp
    · exact Or.inl hp
    · exact Or.inr (by omega)
  | succ d ih =>
    intro b f f' τ L w Bs y hc hf hf' hJ h hp
    obtain ⟨f, rfl⟩ : ∃ g, f = g + 1 := ⟨f - 1, by omega⟩
    obtain ⟨f', rfl⟩ : ∃ g, f' = g + 1 := ⟨f' - 1, by omega⟩
    have b37 : b < 37 := by omega
    rw [s42_s, s47_s]; unfold fX11_split_47B fX10_split_42B
    rw [if_neg (show ¬ 36 < nI b from nI_nlt (a := 36) (b := b) (by omega) (by omega)), if_neg (show ¬ 36 < nI b from nI_nlt (a := 36) (b := b) (by omega) (by omega)), (worst_C a ha).1, (worst_C b b37).1, nI_add, p_nm, low_C hn ha b37]
    refine inner_start (A := A) (B := B) (C := C) hn ha b37 hA (fun L w Bs y τ hJ h hp => ?_) FU FU τ L w Bs y (by rw [FU_eq]; omega) (by rw [FU_eq]; omega) hJ h ?_
    · rw [← nI_succ]
      refine ih (b + 1) f f' τ L w Bs y (by omega) (by omega) (by omega) hJ h ?_
      rcases hp with hp | hp
      · exact Or.inl hp
      · exact Or.inr (by omega)
    · rcases hp with hp | hp
      · exact Or.inl hp
      · exact Or.inr (by omega)
theorem pick (a b c d : Nat) (ha : a < 37) (hb : b < 37) (hc : c < 37) (hd : d < 37) : (nI (((a * 64 + b) * 64 + c) * 64 + d) >>> ((6 * (4 - 1)) &&& 31)) &&& 63 = nI a ∧ (nI (((a * 64 + b) * 64 + c) * 64 + d) >>> ((6 * (4 - 2)) &&& 31)) &&& 63 = nI b ∧ (nI (((a * 64 + b) * 64 + c) * 64 + d) >>> ((6 * (4 - 3)) &&& 31)) &&& 63 = nI c ∧ (nI (((a * 64 + b) * 64 + c) * 64 + d) >>> ((6 * (4 - 4)) &&& 31)) &&& 63 = nI d := by
  refine ⟨?_, ?_, ?_, ?_⟩
  · rw [show (6 * (4 - 1) : Int32) = nI 18 by decide, shr_nI (by omega) (by omega), and63 (by omega)]; congr 1; omega
  · rw [show (6 * (4 - 2) : Int32) = nI 12 by decide, shr_nI (by omega) (by omega), and63 (by omega)]; congr 1; omega
  · rw [show (6 * (4 - 3) : Int32) = nI 6 by decide, shr_nI (by omega) (by omega), and63 (by omega)]; congr 1; omega
  · rw [show (6 * (4 - 4) : Int32) = nI 0 by decide, shr_nI (by omega) (by omega), and63 (by omega)]; congr 1; omega
theorem outer_both {σ : St} {n A B C : Nat} {x2 : Int32} (hx : 0 ≤ x2 ∧ x2 < 5) (hn : n ≤ 144) (hA : A + B + C ≤ n ∧ n - A - B - C < 37 ∧ C < 37) (hB : B < 37) (hA' : A < 37) : ∀ (d a f f' : Nat) (τ : St) (L w Bs y : Int32), a + d = 37 → d < f → d < f' → spJ n L w Bs y τ → Rel σ τ → (y = 1 ∨ a ≤ A) → ∃ r τ', fX10_split_32 f (nI n) x2 L w (nI a) = some r ∧ fX11_split_37 f' τ (nI n) x2 Bs y (nI a) = some (r, τ') ∧ Rel σ τ' := by
  intro d
  induction d with
  | zero =>
    intro a f f' τ L w Bs y hc hf hf' hJ h hp
    obtain ⟨f, rfl⟩ : ∃ g, f = g + 1 := ⟨f - 1, by omega⟩
    obtain ⟨f', rfl⟩ : ∃ g, f' = g + 1 := ⟨f' - 1, by omega⟩
    rw [s32_s, s37_s]; unfold fX11_split_37B fX10_split_32B
    rw [if_pos (show 36 < nI a from nI_lt (a := 36) (by omega) (by omega)), if_pos (show 36 < nI a from nI_lt (a := 36) (by omega) (by omega))]
    rcases hJ with ⟨j1, j2⟩ | ⟨j1, v, p1, p2, p3, p4, v1, b1, b2, b3, b4, j2, j3, j4, j5, j6, j7, j8⟩
    · exfalso
      rcases hp with hp | hp
      · rw [j1] at hp; exact absurd hp (by decide)
      · omega
    · obtain ⟨u1, u2, u3, u4⟩ := pick p1 p2 p3 p4 b1 b2 b3 b4
      rw [j2, j3, j4]
      have hc : x2 = 0 ∨ x2 = 1 ∨ x2 = 2 ∨ x2 = 3 ∨ x2 = 4 := by grind
      rcases hc with c | c | c | c | c
      · rw [if_pos c, if_pos c]; exact ⟨_, _, rfl, rfl, h⟩
      · subst c
        rw [if_neg (by decide), if_neg (by decide), u1, show ((1 : Int32) - 1) = nI 0 by decide, p_rdN (by omega) (by omega), j5]; exact ⟨_, _, rfl, rfl, h⟩
      · subst c
        rw [if_neg (by decide), if_neg (by decide), u2, show ((2 : Int32) - 1) = nI 1 by decide, p_rdN (by omega) (by omega), j6]; exact ⟨_, _, rfl, rfl, h⟩
      · subst c
        rw [if_neg (by decide), if_neg (by decide), u3, show ((3 : Int32) - 1) = nI 2 by decide, p_rdN (by omega) (by omega), j7]; exact ⟨_, _, rfl, rfl, h⟩
      · subst c
        rw [if_neg (by decide), if_neg (by decide), u4, show ((4 : Int32) - 1) = nI 3 by decide, p_rdN (by omega) (by omega), j8]; exact ⟨_, _, rfl, rfl, h⟩
  | succ d ih =>
    intro a f f' τ L w Bs y hc hf hf' hJ h hp
    obtain ⟨f, rfl⟩ : ∃ g, f = g + 1 := ⟨f - 1, by omega⟩
    obtain ⟨f', rfl⟩ : ∃ g, f' = g + 1 := ⟨f' - 1, by omega⟩
    have a37 : a < 37 := by omega
    rw [s32_s, s37_s]; unfold fX11_split_37B fX10_split_32B
    rw [if_neg (show ¬ 36 < nI a from nI_nlt (a := 36) (b := a) (by omega) (by omega)), if_neg (show ¬ 36 < nI a from nI_nlt (a := 36) (b := a) (by omega) (by omega))]
    refine mid_both (A := A) (B := B) (C := C) hn a37 hA hB (fun L w Bs y τ hJ h hp => ?_) 37 0 FU FU τ L w Bs y (by omega) (by rw [FU_eq]; omega) (by rw [FU_eq]; omega) hJ h ?_
    · rw [← nI_succ]
      refine ih (a + 1) f f' τ L w Bs y (by omega) (by omega) (by omega) hJ h ?_
      rcases hp with hp | hp
      · exact Or.inl hp
      · exact Or.inr (by omega)
    · rcases hp with hp | hp
      · exact Or.inl hp
      · exact Or.inr (by omega)
theorem opp_16 : op_16 Rel := by
  intro σ τ a0 a1 h
  have ht := rel_told h 0
  by_cases c0 : 0 ≤ a0 ∧ a0 < 145
  rotate_left
  · refine ⟨-1, _, ?_, ?_, ht⟩
    · unfold fX10_split; rw [wi_f c0, if_pos rfl]
    · unfold fX11_split; simp only [p_nmS]; rw [ii_f (by grind), if_pos rfl]
  by_cases c1 : 0 ≤ a1 ∧ a1 < 5
  rotate_left
  · refine ⟨-1, _, ?_, ?_, ht⟩
    · unfold fX10_split; rw [wi_t c0, if_neg n10, wi_f c1, if_pos rfl]
    · unfold fX11_split; simp only [p_nmS]; rw [ii_t (by grind), if_neg n10, ii_f (by grind), if_pos rfl]
  unfold fX10_split fX11_split; simp only [p_nmS]
  rw [wi_t c0, if_neg n10, wi_t c1, if_neg n10, ii_t (by grind), if_neg n10, ii_t (by grind), if_neg n10]
  obtain ⟨n, hn, rfl⟩ := i_of (n := 145) (by omega) c0.1 c0.2
  exact outer_both (σ := σ) (A := min n 36) (B := min (n - min n 36) 36) (C := min (n - min n 36 - min (n - min n 36) 36) 36) c1 (by omega) (by omega) (by omega) (by omega) 37 0 FU FU _ (5 * nI n + 1) 0 (-1) 0 (by omega) (by rw [FU_eq]; omega) (by rw [FU_eq]; omega) (Or.inl ⟨rfl, by rw [show (5 : Int32) = nI 5 from rfl, pk_mul, show (1 : Int32) = nI 1 from rfl, nI_add]⟩) ht (Or.inr (by omega))
