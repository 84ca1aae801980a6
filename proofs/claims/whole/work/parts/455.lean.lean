/-! how far she leans -/
theorem arm_both {b d : Nat} {σ τ : St} (ha : r_arms (σ (b + 1)) (τ 27)) (hd : d ≤ 60) : ∃ a : Int32, fX5_armTenths b σ (nI d) = some a ∧ fX11_armAt τ (nI d) = some a ∧ (d = 0 → ∃ v, v ≤ 99 ∧ a = nI (10 * v)) := by
  have e10 : nI d / 10 = nI (d / 10) := pk_div (d := 10) (by omega) (by omega) (by omega)
  have hk : d / 10 < 7 := by omega
  have hw : fX10_within (nI (d / 10)) 7 = 1 := wi_t ⟨nI_pos' (by omega), nI_lt (b := 7) hk (by omega)⟩
  obtain ⟨v1, g1, g2, g3⟩ := ha (d / 10) hk
  unfold fX5_armTenths fX11_armAt
  rw [e10, hw, if_neg n10]
  simp only [p_nm]
  by_cases e6 : d = 60
  · subst e6
    refine ⟨10 * σ (b + 1) 6, ?_, ?_, by omega⟩
    · rw [show (if (7 - 1 : Int32) < nI (60 / 10) + 1 then (7 - 1 : Int32) else nI (60 / 10) + 1) = nI 6 from by decide, p_rdN (by omega) (by omega), p_rdN (by omega) (by omega), p_rdN (by omega) (by omega)]
      congr 1
      grind
    · rw [if_pos (by decide), show (6 : Int32) = nI 6 from rfl, p_rdN (by omega) (by omega)]
      have : σ (b + 1) 6 = τ 27 6 := by obtain ⟨v, q1, q2, q3⟩ := ha 6 (by omega); rw [q2, q3]
      rw [this]
  · have hk1 : d / 10 + 1 < 7 := by omega
    have e7 : nI (d / 10) + 1 = nI (d / 10 + 1) := (nI_succ _).symm
    obtain ⟨v2, a1, a2, a3⟩ := ha (d / 10 + 1) hk1
    refine ⟨(10 * nI v1) + ((nI v2 - nI v1) * (nI d - nI (d / 10) * 10)), ?_, ?_, ?_⟩
    · rw [e7, if_neg (show ¬ (7 - 1 : Int32) < nI (d / 10 + 1) from nI_nlt (b := d / 10 + 1) (a := 6) (by omega) (by omega)), p_rdN (by omega) (by omega), p_rdN (by omega) (by omega), p_rdN (by omega) (by omega), g2, a2]
    · rw [if_neg (show ¬ nI d = 60 from fun q => e6 ((nI_eq (b := 60) (by omega) (by omega)).mp q)), e7, p_rdN (by omega) (by omega), p_rdN (by omega) (by omega), p_rdN (by omega) (by omega), g3, a3]
    · rintro rfl
      refine ⟨v1, g1, ?_⟩
      rw [show nI 0 - nI (0 / 10) * 10 = 0 from by decide, show (10 : Int32) = nI 10 from rfl, pk_mul]
      grind
theorem weightC_nat {σ τ : St} {w b : Nat} {O W K P : Nat → Nat} (hb : stN (b + 2) = 144) (hr : r_hold O W K P) (hh : r_hW w b σ τ O W K P) : ∀ (d i f n : Nat), i + d = 144 → d < f → ∃ r : Nat, r ≤ n + 11000 * d ∧ fX5_weight_6 b σ f (nI n) (nI i) = some (nI r) := by
  intro d
  induction d with
  | zero =>
    intro i f n hi hf
    obtain ⟨f, rfl⟩ : ∃ g, f = g + 1 := ⟨f - 1, by omega⟩
    rw [weC_s]; unfold fX5_weight_6B
    rw [hb, if_pos (c_full i (by omega) (by omega))]
    exact ⟨n, by omega, rfl⟩
  | succ d ih =>
    intro i f n hi hf
    obtain ⟨f, rfl⟩ : ∃ g, f = g + 1 := ⟨f - 1, by omega⟩
    obtain ⟨h1, h2, h3, h4, h5, h6, h7, h8⟩ := hh i (by omega)
    obtain ⟨r1, r2, r3, r4, r5⟩ := hr.1 i (by omega)
    rw [weC_s]; unfold fX5_weight_6B fX5_heft
    rw [hb, if_neg (c_less i (by omega) (by omega)), p_rdN (by omega) (by omega), p_rdN (by omega) (by omega), h1, h2, p_cq, ← nI_succ, show (10 : Int32) = nI 10 from rfl, pk_mul, nI_add, nI_add]
    obtain ⟨r, q1, q2⟩ := ih (i + 1) f (n + (10 * O i + W i)) (by omega) (by omega)
    exact ⟨r, by omega, q2⟩
theorem ln_s (b : Nat) (σ : St) (f : Nat) (a : Int32) (x y : Int64) (c : Int32) : fX5_leanNow_25 b σ (f + 1) a x y c = fX5_leanNow_25B b σ (fX5_leanNow_25 b σ f) a x y c := rfl
theorem lo19_s (τ : St) (f : Nat) (a : Int32) (x : Int64) (c : Int32) : fX11_leanOf_19 τ (f + 1) a x c = fX11_leanOf_19B τ (fX11_leanOf_19 τ f) a x c := rfl
def sgI (m : Int32) (x : Nat) : Int32 := if 0 ≤ m then nI x else - nI x
theorem ln53 (b : Nat) (σ : St) (m : Int32) (x : Nat) : fX5_leanNow_53 b σ m (nI x) = some (sgI m x) := by
  unfold fX5_leanNow_53 sgI
  split <;> rfl
theorem lean_loop {b : Nat} {σ τ : St} {m wt : Int32} {M : Int64} (ha : r_arms (σ (b + 1)) (τ 27)) : ∀ (d x f : Nat), x + d = 61 → d < f → (∃ k, x ≤ k ∧ k ≤ 60 ∧ fX5_leanNow_25 b σ f m wt.toInt64 M (nI x) = some (sgI m k) ∧ fX11_leanOf_19 τ f wt M (nI x) = some (nI k)) ∨ (fX5_leanNow_25 b σ f m wt.toInt64 M (nI x) = some (sgI m 61) ∧ fX11_leanOf_19 τ f wt M (nI x) = some (-1)) := by
  intro d
  induction d with
  | zero =>
    intro x f h1 h2
    obtain ⟨f, rfl⟩ : ∃ g, f = g + 1 := ⟨f - 1, by omega⟩
    have : x = 61 := by omega
    subst this
    rw [ln_s, lo19_s]; unfold fX5_leanNow_25B fX11_leanOf_19B
    rw [if_pos (show (60 : Int32) < nI 61 by decide), if_pos (show (60 : Int32) < nI 61 by decide), ln53]
    exact Or.inr ⟨rfl, rfl⟩
  | succ d ih =>
    intro x f h1 h2
    obtain ⟨f, rfl⟩ : ∃ g, f = g + 1 := ⟨f - 1, by omega⟩
    obtain ⟨a, a1, a2, a3⟩ := arm_both (b := b) (d := x) ha (by omega)
    rw [ln_s, lo19_s]; unfold fX5_leanNow_25B fX11_leanOf_19B
    have nx : ¬ (60 : Int32) < nI x := fun q => absurd ((nI_ltI (a := 60) (by omega) (by omega)).mp q) (by omega)
    rw [if_neg nx, if_neg nx, a1, a2, p_cq, p_cq]
    by_cases c : 0 ≤ lg_cmp (a.toInt64 * wt.toInt64) M
    · rw [if_pos c, if_neg (show ¬ lg_cmp (a.toInt64 * wt.toInt64) M < 0 by grind), ln53]
      exact Or.inl ⟨x, Nat.le_refl _, by omega, rfl, rfl⟩
    · rw [if_neg c, if_pos (show lg_cmp (a.toInt64 * wt.toInt64) M < 0 by grind), show nI x + 1 = nI (x + 1) from (nI_succ _).symm]
      rcases ih (x + 1) f (by omega) (by omega) with ⟨k, q1, q2, q3, q4⟩ | q
      · exact Or.inl ⟨k, by omega, q2, q3, q4⟩
      · exact Or.inr q
theorem neg_abs (m : Int32) : (if 0 ≤ m then m else 0 - m) = if 0 ≤ m then m else -m := by
  by_cases c : 0 ≤ m
  · rw [if_pos c, if_pos c]
  · rw [if_neg c, if_neg c]; grind
/-- moment, weight and lean of both -/
theorem lean_both {w b : Nat} {σ τ : St} {O W K P : Nat → Nat} (hw : w < 2) (hb : stN (b + 2) = 144) (hr : r_hold O W K P) (hh : r_hW w b σ τ O W K P) (ha : r_arms (σ (b + 1)) (τ 27)) : ∃ m wt : Int32, fX11_momentOf τ (nI w) = some m ∧ fX11_weightOf τ (nI w) = some wt ∧ ((∃ k, k ≤ 60 ∧ fX5_leanNow b σ = some (sgI m k) ∧ fX11_leanOf τ m wt = some (nI k) ∧ (m = 0 → k = 0)) ∨ (fX5_leanNow b σ = some (sgI m 61) ∧ fX11_leanOf τ m wt = some (-1) ∧ ¬ m = 0)) := by
  have fu : 144 < FU := by rw [FU_eq]; omega
  obtain ⟨m, m1, m2⟩ := moment_both hw hb hh 144 0 FU 0 (by omega) fu
  obtain ⟨wt, w1, w2⟩ := weight_both hw hb hh 144 0 FU 2000 (by omega) fu
  obtain ⟨wn, n1, n2⟩ := weightC_nat hb hr hh 144 0 FU 2000 (by omega) fu
  have ew : wt = nI wn := by
    rw [show (2000 : Int32) = nI 2000 from rfl, n2] at w1
    exact (Option.some.inj w1).symm
  refine ⟨m, wt, by unfold fX11_momentOf; rw [w144z]; exact m2, by unfold fX11_weightOf; rw [w144z]; exact w2, ?_⟩
  have C1 : fX5_moment b σ = some m := m1
  have C2 : fX5_weight b σ = some wt := w1
  have lC : fX5_leanNow b σ = fX5_leanNow_25 b σ FU m wt.toInt64 (200 * ((if 0 ≤ m then m else -m) : Int32).toInt64) 0 := by
    unfold fX5_leanNow
    rw [C1, p_cq, C2, p_cq, p_nml, neg_abs]
  have lM : fX11_leanOf τ m wt = fX11_leanOf_19 τ FU wt (200 * ((if 0 ≤ m then m else -m) : Int32).toInt64) 0 := by
    unfold fX11_leanOf
    by_cases c : 0 ≤ m
    · rw [if_pos c, if_pos c]
    · rw [if_neg c, if_neg c]
  rw [lC, lM]
  by_cases z : m = 0
  · left
    subst z
    refine ⟨0, by omega, ?_, ?_, fun _ => rfl⟩
    all_goals
      obtain ⟨a, a1, a2, a3⟩ := arm_both (b := b) (d := 0) ha (by omega)
      obtain ⟨v, v1, v2⟩ := a3 rfl
      have big : 0 ≤ lg_cmp (a.toInt64 * wt.toInt64) (200 * (((if (0 : Int32) ≤ 0 then (0 : Int32) else -0)) : Int32).toInt64) := by
        rw [lg_cmp_ge, show (200 * (((if (0 : Int32) ≤ 0 then (0 : Int32) else -0)) : Int32).toInt64) = lN 0 from by decide, v2, ew, nI_l (by omega), nI_l (by omega), lN_mul]
        have le1 : 10 * v * wn ≤ 990 * 2000000 := Nat.mul_le_mul (by omega) (by omega)
        exact (pk_lLE (by omega) (by omega)).mpr (by omega)
      rw [FU_eq, show (5000 : Nat) = 4999 + 1 from rfl]
    · rw [ln_s]; unfold fX5_leanNow_25B
      rw [if_neg (show ¬ (60 : Int32) < 0 by decide), show fX5_armTenths b σ 0 = some a from a1, p_cq, if_pos big]
      exact ln53 b σ 0 0
    · rw [lo19_s]; unfold fX11_leanOf_19B
      rw [if_neg (show ¬ (60 : Int32) < 0 by decide), show fX11_armAt τ 0 = some a from a2, p_cq, if_neg (show ¬ lg_cmp (a.toInt64 * wt.toInt64) (200 * (((if (0 : Int32) ≤ 0 then (0 : Int32) else -0)) : Int32).toInt64) < 0 by grind)]
      rfl
  · rcases lean_loop (b := b) (m := m) (wt := wt) (M := 200 * ((if 0 ≤ m then m else -m) : Int32).toInt64) ha 61 0 FU (by omega) (by rw [FU_eq]; omega) with ⟨k, q1, q2, q3, q4⟩ | ⟨q1, q2⟩
    · exact Or.inl ⟨k, q2, q3, q4, fun h => absurd h z⟩
    · exact Or.inr ⟨q1, q2, z⟩
theorem abs_sg (m : Int32) {k : Nat} (hk : k ≤ 61) : (if 0 ≤ sgI m k then sgI m k else 0 - sgI m k) = nI k := by
  unfold sgI
  by_cases c : 0 ≤ m
  · rw [if_pos c, if_pos (nI_pos' (by omega))]
  · rw [if_neg c]
    by_cases z : k = 0
    · subst z; decide
    · have p : 0 < nI k := (nI_0lt (by omega)).mpr (by omega)
      have q : nI k < nI 100 := nI_lt (by omega) (by omega)
      rw [show nI 100 = (100 : Int32) from rfl] at q
      rw [if_neg (show ¬ 0 ≤ -nI k by grind)]; grind
