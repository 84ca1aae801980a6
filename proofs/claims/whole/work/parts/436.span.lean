def adN (a b : Nat) : Nat := if a ≤ b then b - a else a - b
theorem adN_comm (a b : Nat) : adN a b = adN b a := by unfold adN; split <;> split <;> omega
theorem adN_le {a b n : Nat} (ha : a ≤ n) (hb : b ≤ n) : adN a b ≤ n := by unfold adN; split <;> omega
theorem abs_nI {p q : Nat} (hp : p < 1000000) (hq : q < 1000000) : (if 0 ≤ nI p - nI q then nI p - nI q else 0 - (nI p - nI q)) = nI (adN p q) := by
  unfold adN
  rcases Nat.lt_or_ge p q with h | h
  · have := pk_sneg (a := p) (b := q) (by omega) h
    rw [if_neg (by grind), if_pos (by omega), ← pk_sub (by omega)]; grind
  · rw [pk_sub h, if_pos (nI_pos' (by omega))]
    by_cases e : p = q
    · subst e; rw [if_pos (by omega)]
    · rw [if_neg (by omega)]
theorem apart_nI {p q : Nat} (hp : p < 1000000) (hq : q < 1000000) : fX11_apart (nI p) (nI q) = nI (adN p q) := by
  unfold fX11_apart adN
  rcases Nat.lt_or_ge p q with h | h
  · rw [if_neg (fun w => absurd ((nI_leI (by omega) (by omega)).mp w) (by omega)), if_pos (by omega), pk_sub (by omega)]
  · rw [if_pos (nI_le h (by omega)), pk_sub h]
    by_cases e : p = q
    · subst e; rw [if_pos (by omega)]
    · rw [if_neg (by omega)]
def dN (k z k' z' : Nat) : Nat := adN (k / 8) (k' / 8) + adN (k % 8) (k' % 8) + adN z z'
theorem dN_comm (k z k' z' : Nat) : dN k z k' z' = dN k' z' k z := by unfold dN; rw [adN_comm, adN_comm (k % 8), adN_comm z]
theorem dN_le {k z k' z' : Nat} (hk : k < 64) (hz : z < 4) (hk' : k' < 64) (hz' : z' < 4) : dN k z k' z' ≤ 17 := by
  unfold dN
  have h1 := adN_le (n := 7) (show k / 8 ≤ 7 by omega) (show k' / 8 ≤ 7 by omega)
  have h2 := adN_le (n := 7) (show k % 8 ≤ 7 by omega) (show k' % 8 ≤ 7 by omega)
  have h3 := adN_le (n := 3) (show z ≤ 3 by omega) (show z' ≤ 3 by omega)
  omega
theorem distC {k z k' z' : Nat} (hk : k < 64) (hz : z < 4) (hk' : k' < 64) (hz' : z' < 4) : fX0_distance (nI (4 * k + z)) (nI (4 * k' + z')) = nI (dN k z k' z') := by
  unfold fX0_distance
  have q : ∀ {k z : Nat}, k < 64 → z < 4 → nI (4 * k + z) / 4 = nI k ∧ nI (4 * k + z) / 32 = nI (k / 8) ∧ nI k - nI k / 8 * 8 = nI (k % 8) ∧ nI (4 * k + z) - nI k * 4 = nI z := by
    intro k z hk hz
    have e1 : nI (4 * k + z) / 4 = nI k := by
      rw [show (4 : Int32) = nI 4 from rfl, pk_div (by omega) (by omega) (by omega)]; congr 1; omega
    refine ⟨e1, ?_, pk_rem (d := 8) (by omega) (by omega) (by omega), ?_⟩
    · rw [show (32 : Int32) = nI 32 from rfl, pk_div (by omega) (by omega) (by omega)]; congr 1; omega
    · have := pk_rem (a := 4 * k + z) (d := 4) (by omega) (by omega) (by omega)
      rw [show nI 4 = (4 : Int32) from rfl, e1] at this
      rw [this]; congr 1; omega
  obtain ⟨a1, a2, a3, a4⟩ := q hk hz
  obtain ⟨b1, b2, b3, b4⟩ := q hk' hz'
  rw [a1, b1, a2, b2, a3, b3, a4, b4]
  simp only [p_nm]
  rw [abs_nI (by omega) (by omega), abs_nI (by omega) (by omega), abs_nI (by omega) (by omega), nI_add, nI_add]
  rfl
theorem sw_div {k : Nat} (hk : k < 64) : sw k % 8 = k / 8 ∧ sw k / 8 = k % 8 := by unfold sw; omega
theorem distM {k z k' z' : Nat} (hk : k < 64) (hz : z < 4) (hk' : k' < 64) (hz' : z' < 4) : fX11_distance (nI (64 * z + sw k)) (nI (64 * z' + sw k')) = nI (dN k z k' z') := by
  unfold fX11_distance
  have q : ∀ {k z : Nat}, k < 64 → z < 4 → nI (64 * z + sw k) - nI (64 * z + sw k) / 8 * 8 = nI (k / 8) ∧ (nI (64 * z + sw k) / 8) - (nI (64 * z + sw k) / 8) / 8 * 8 = nI (k % 8) ∧ nI (64 * z + sw k) / 64 = nI z := by
    intro k z hk hz
    obtain ⟨s1, s2⟩ := sw_div hk
    have s3 := sw_lt hk
    have e1 : nI (64 * z + sw k) / 8 = nI (8 * z + sw k / 8) := by
      rw [show (8 : Int32) = nI 8 from rfl, pk_div (by omega) (by omega) (by omega)]; congr 1; omega
    refine ⟨?_, ?_, ?_⟩
    · have := pk_rem (a := 64 * z + sw k) (d := 8) (by omega) (by omega) (by omega)
      rw [show nI 8 = (8 : Int32) from rfl] at this
      rw [this]; congr 1; omega
    · rw [e1]
      have := pk_rem (a := 8 * z + sw k / 8) (d := 8) (by omega) (by omega) (by omega)
      rw [show nI 8 = (8 : Int32) from rfl] at this
      rw [this]; congr 1; omega
    · rw [show (64 : Int32) = nI 64 from rfl, pk_div (by omega) (by omega) (by omega)]; congr 1; omega
  obtain ⟨a1, a2, a3⟩ := q hk hz
  obtain ⟨b1, b2, b3⟩ := q hk' hz'
  rw [a1, b1, a2, b2, a3, b3, apart_nI (by omega) (by omega), apart_nI (by omega) (by omega), apart_nI (by omega) (by omega), nI_add, nI_add]
  rfl
theorem leC_s (σ : St) (f : Nat) (a b c d : Int32) : fX0_least_5 σ (f + 1) a b c d = fX0_least_5B σ (fX0_least_5 σ f) a b c d := rfl
theorem grC_s (σ : St) (f : Nat) (a b c d : Int32) : fX0_greatest_6 σ (f + 1) a b c d = fX0_greatest_6B σ (fX0_greatest_6 σ f) a b c d := rfl
theorem enM_s (σ : St) (f : Nat) (a b c d g : Int32) : fX11_endOf_15 σ (f + 1) a b c d g = fX11_endOf_15B σ (fX11_endOf_15 σ f) a b c d g := rfl
/-- the lower end of a span, on both sides -/
theorem least_both {σ τ : St} (h : Rel σ τ) {k z : Nat} (hk : k < 64) (hz : z < 4) (hr : Int32) : ∀ (d i f m n : Nat), σ 34 1 = nI n → n ≤ 60 → i + d = n → d < f → m ≤ 9999 → ∃ r : Nat, r ≤ 99 ∧ fX0_least_5 σ f (nI (4 * k + z)) hr (nI m) (nI i) = some (nI r) ∧ fX11_endOf_15 τ f (nI (64 * z + sw k)) hr 1 (nI m) (nI i) = some (nI r) := by
  obtain ⟨st, hst, es1, es2⟩ := g_step h
  obtain ⟨n0, hn0, ec1, ec2, hcan⟩ := g_cans h
  intro d
  induction d with
  | zero =>
    intro i f m n hn hn6 hi hf hm
    obtain ⟨f, rfl⟩ : ∃ g, f = g + 1 := ⟨f - 1, by omega⟩
    have e : n0 = n := (nI_eq (by omega) (by omega)).mp (by rw [← ec1, ← hn])
    subst e
    refine ⟨min m 99, by omega, ?_, ?_⟩
    · rw [leC_s]; unfold fX0_least_5B fX0_least_67; rw [ec1, if_pos (nI_le (by omega) (by omega))]
      rcases Nat.lt_or_ge 99 m with q | q
      · rw [if_pos (show 99 < nI m from nI_lt (a := 99) q (by omega)), Nat.min_eq_right (by omega)]; rfl
      · rw [if_neg (show ¬ 99 < nI m from nI_nlt (a := 99) (b := m) (by omega) (by omega)), Nat.min_eq_left q]
    · rw [enM_s]; unfold fX11_endOf_15B fX11_cut; rw [ec2, if_pos (nI_le (by omega) (by omega)), if_pos (nI_pos' (by omega))]
      rcases Nat.lt_or_ge 99 m with q | q
      · rw [if_neg (show ¬ nI m ≤ 99 from fun w => absurd ((nI_leI (a := m) (b := 99) (by omega) (by omega)).mp w) (by omega)), Nat.min_eq_right (by omega)]; rfl
      · rw [if_pos (show nI m ≤ 99 from nI_le (b := 99) q (by omega)), Nat.min_eq_left q]
  | succ d ih =>
    intro i f m n hn hn6 hi hf hm
    obtain ⟨f, rfl⟩ : ∃ g, f = g + 1 := ⟨f - 1, by omega⟩
    have e : n0 = n := (nI_eq (by omega) (by omega)).mp (by rw [← ec1, ← hn])
    subst e
    obtain ⟨⟨k', z', hk', hz', c1, c2⟩, ⟨w, hw, w1, w2⟩, hh, N, hhN, hN, eN, g1, g2⟩ := hcan i (by omega)
    have nx : nI i + 1 = nI (i + 1) := (nI_succ i).symm
    have i6 : i < 60 := by omega
    have dl := dN_le hk hz hk' hz'
    have far : nI st * nI (dN k z k' z') = nI (st * dN k z k' z') := pk_mul _ _
    have fl : st * dN k z k' z' ≤ 20 * 17 := Nat.mul_le_mul hst dl
    rw [leC_s, enM_s]; unfold fX0_least_5B fX11_endOf_15B
    rw [ec1, ec2, if_neg (show ¬ nI n0 ≤ nI i from fun q => absurd ((nI_leI (by omega) (by omega)).mp q) (by omega)), if_neg (show ¬ nI n0 ≤ nI i from fun q => absurd ((nI_leI (by omega) (by omega)).mp q) (by omega)), if_neg (show ¬ 60 ≤ nI i from fun q => absurd ((nI_leI (a := 60) (b := i) (by omega) (by omega)).mp q) (by omega)), p_rdN (f := σ 37) i6 (by omega), p_rdN (f := τ 31) i6 (by omega), g1, g2]
    by_cases c : hr < nI hh
    · rw [if_pos c, if_neg (Int32.not_le.mpr c), nx]
      exact ih (i + 1) f m n0 ec1 hn6 (by omega) (by omega) hm
    · rw [if_neg c, if_pos (Int32.not_lt.mp c), p_rdN i6 (by omega), p_rdN i6 (by omega), p_rdN i6 (by omega), c1, c2, w1, distC hk' hz' hk hz, distM hk hz hk' hz', dN_comm k' z' k z, es1, es2, far]
      rw [if_neg (show ¬ (1 : Int32) = 0 from n10), p_rdN i6 (by omega), p_rdN i6 (by omega), w2]
      unfold fX11_endOf_88
      simp only [p_nm, if_neg n10]
      rw [nx]
      generalize st * dN k z k' z' = q at *
      by_cases c3 : m + q < w
      · have e1 : nI w - nI q = nI (w - q) := pk_sub (by omega)
        rw [e1, if_pos (nI_lt (by omega) (by omega)), if_neg (fun z => absurd ((nI_leI (by omega) (by omega)).mp z) (by omega))]
        exact ih (i + 1) f (w - q) n0 ec1 hn6 (by omega) (by omega) (by omega)
      · have e1 : (nI w - nI q).toInt = (w : Int) - q := pk_sub_toInt (by omega) (by omega)
        have e2 : (nI m).toInt = m := nI_toInt (by omega)
        rw [if_neg (show ¬ nI m < nI w - nI q from fun z => by rw [Int32.lt_iff_toInt_lt, e1, e2] at z; omega), if_pos (show nI w - nI q ≤ nI m from by rw [Int32.le_iff_toInt_le, e1, e2]; omega)]
        exact ih (i + 1) f m n0 ec1 hn6 (by omega) (by omega) hm
/-- the upper end of a span, on both sides -/
theorem greatest_both {σ τ : St} (h : Rel σ τ) {k z : Nat} (hk : k < 64) (hz : z < 4) (hr : Int32) : ∀ (d i f m n : Nat), σ 34 1 = nI n → n ≤ 60 → i + d = n → d < f → m ≤ 99 → ∃ r : Nat, r ≤ 99 ∧ fX0_greatest_6 σ f (nI (4 * k + z)) hr (nI m) (nI i) = some (nI r) ∧ fX11_endOf_15 τ f (nI (64 * z + sw k)) hr 0 (nI m) (nI i) = some (nI r) := by
  obtain ⟨st, hst, es1, es2⟩ := g_step h
  obtain ⟨n0, hn0, ec1, ec2, hcan⟩ := g_cans h
  intro d
  induction d with
  | zero =>
    intro i f m n hn hn6 hi hf hm
    obtain ⟨f, rfl⟩ : ∃ g, f = g + 1 := ⟨f - 1, by omega⟩
    have e : n0 = n := (nI_eq (by omega) (by omega)).mp (by rw [← ec1, ← hn])
    subst e
    refine ⟨m, hm, ?_, ?_⟩
    · rw [grC_s]; unfold fX0_greatest_6B; rw [ec1, if_pos (nI_le (by omega) (by omega))]
    · rw [enM_s]; unfold fX11_endOf_15B fX11_cut; rw [ec2, if_pos (nI_le (by omega) (by omega)), if_pos (nI_pos' (by omega)), if_pos (show nI m ≤ 99 from nI_le (b := 99) hm (by omega))]
  | succ d ih =>
    intro i f m n hn hn6 hi hf hm
    obtain ⟨f, rfl⟩ : ∃ g, f = g + 1 := ⟨f - 1, by omega⟩
    have e : n0 = n := (nI_eq (by omega) (by omega)).mp (by rw [← ec1, ← hn])
    subst e
    obtain ⟨⟨k', z', hk', hz', c1, c2⟩, ⟨w, hw, w1, w2⟩, hh, N, hhN, hN, eN, g1, g2⟩ := hcan i (by omega)
    have nx : nI i + 1 = nI (i + 1) := (nI_succ i).symm
    have i6 : i < 60 := by omega
    have dl := dN_le hk hz hk' hz'
    have far : nI st * nI (dN k z k' z') = nI (st * dN k z k' z') := pk_mul _ _
    have fl : st * dN k z k' z' ≤ 20 * 17 := Nat.mul_le_mul hst dl
    rw [grC_s, enM_s]; unfold fX0_greatest_6B fX11_endOf_15B
    rw [ec1, ec2, if_neg (show ¬ nI n0 ≤ nI i from fun q => absurd ((nI_leI (by omega) (by omega)).mp q) (by omega)), if_neg (show ¬ nI n0 ≤ nI i from fun q => absurd ((nI_leI (by omega) (by omega)).mp q) (by omega)), if_neg (show ¬ 60 ≤ nI i from fun q => absurd ((nI_leI (a := 60) (b := i) (by omega) (by omega)).mp q) (by omega)), p_rdN (f := σ 37) i6 (by omega), p_rdN (f := τ 31) i6 (by omega), g1, g2]
    by_cases c : hr < nI hh
    · rw [if_pos c, if_neg (Int32.not_le.mpr c), nx]
      exact ih (i + 1) f m n0 ec1 hn6 (by omega) (by omega) hm
    · rw [if_neg c, if_pos (Int32.not_lt.mp c), p_rdN i6 (by omega), p_rdN i6 (by omega), p_rdN i6 (by omega), c1, c2, w1, distC hk' hz' hk hz, distM hk hz hk' hz', dN_comm k' z' k z, es1, es2, far]
      unfold fX11_endOf_88
      simp only [p_nm, if_true, p_rdN i6 (show 60 < 2147483648 by omega), w2, nx]
      generalize st * dN k z k' z' = q at *
      rw [nI_add]
      by_cases c3 : w + q < m
      · rw [if_pos (nI_lt c3 (by omega)), if_neg (fun z => absurd ((nI_leI (by omega) (by omega)).mp z) (by omega))]
        exact ih (i + 1) f (w + q) n0 ec1 hn6 (by omega) (by omega) (by omega)
      · rw [if_neg (nI_nlt (by omega) (by omega)), if_pos (nI_le (by omega) (by omega))]
        exact ih (i + 1) f m n0 ec1 hn6 (by omega) (by omega) hm
/-- both ends: what the class and the model say of a cell -/
theorem ends_both {σ τ : St} (h : Rel σ τ) {k z : Nat} (hk : k < 64) (hz : z < 4) (hr : Int32) : (∃ r : Nat, r ≤ 99 ∧ fX0_least σ (nI (4 * k + z)) hr = some (nI r) ∧ fX11_endOf τ (nI (64 * z + sw k)) hr 1 = some (nI r)) ∧ ∃ r : Nat, r ≤ 99 ∧ fX0_greatest σ (nI (4 * k + z)) hr = some (nI r) ∧ fX11_endOf τ (nI (64 * z + sw k)) hr 0 = some (nI r) := by
  obtain ⟨n, hn, ec1, ec2, hcan⟩ := g_cans h
  constructor
  · obtain ⟨r, h1, h2, h3⟩ := least_both h hk hz hr n 0 FU 0 n ec1 hn (by omega) (by rw [FU_eq]; omega) (by omega)
    exact ⟨r, h1, h2, by unfold fX11_endOf; rw [if_neg n10]; exact h3⟩
  · obtain ⟨r, h1, h2, h3⟩ := greatest_both h hk hz hr n 0 FU 99 n ec1 hn (by omega) (by rw [FU_eq]; omega) (by omega)
    exact ⟨r, h1, h2, by unfold fX11_endOf; rw [if_pos rfl]; exact h3⟩
theorem opp_19 : op_19 Rel := by
  intro σ τ a0 a1 a2 a3 a4 h
  have ht := rel_told h 0
  rcases cell_cases a0 a1 a2 with ⟨e1, e2⟩ | ⟨k, z, hk, hz, e0, e1, e2⟩
  · refine ⟨-1, _, ?_, ?_, ht⟩
    · unfold fX10_span; rw [e1, if_pos rfl]
    · unfold fX11_span; simp only [p_nmS]; rw [e2, if_pos rfl]
  have hs := sw_lt hk
  have g1 : ¬ nI (4 * k + z) = -1 := nI_m1 (by omega)
  have g2 : ¬ nI (64 * z + sw k) = -1 := nI_m1 (by omega)
  by_cases c3 : 0 ≤ a3 ∧ a3 < 720
  rotate_left
  · refine ⟨-1, _, ?_, ?_, ht⟩
    · unfold fX10_span; rw [e1, if_neg g1, wi_f c3, if_pos rfl]
    · unfold fX11_span fX11_isHour; simp only [p_nmS]; rw [e2, if_neg g2, ii_f (by grind), if_pos rfl]
  by_cases c4 : 0 ≤ a4 ∧ a4 < 2
  rotate_left
  · refine ⟨-1, _, ?_, ?_, ht⟩
    · unfold fX10_span; rw [e1, if_neg g1, wi_t c3, if_neg n10, wi_f c4, if_pos rfl]
    · unfold fX11_span fX11_isHour; simp only [p_nmS]; rw [e2, if_neg g2, ii_t (by grind), if_neg n10, ii_f (by grind), if_pos rfl]
  obtain ⟨⟨r0, _, p0, q0⟩, ⟨r1, _, p1, q1⟩⟩ := ends_both ht hk hz a3
  by_cases d : a4 = 0
  · refine ⟨nI r0, _, ?_, ?_, ht⟩
    · unfold fX10_span; rw [e1, if_neg g1, wi_t c3, if_neg n10, wi_t c4, if_neg n10, if_pos d, p0]; rfl
    · unfold fX11_span fX11_isHour fX11_span_59; simp only [p_nmS]; rw [e2, if_neg g2, ii_t (by grind), if_neg n10, ii_t (by grind), if_neg n10, if_pos d, q0]; rfl
  · refine ⟨nI r1, _, ?_, ?_, ht⟩
    · unfold fX10_span; rw [e1, if_neg g1, wi_t c3, if_neg n10, wi_t c4, if_neg n10, if_neg d, p1]; rfl
    · unfold fX11_span fX11_isHour fX11_span_59; simp only [p_nmS]; rw [e2, if_neg g2, ii_t (by grind), if_neg n10, ii_t (by grind), if_neg n10, if_neg d, q1]; rfl
