/-! sums over all cells: the class's order and the model's -/
theorem perm_foldr {A B : Type} (f : A → B → B) (hf : ∀ a b c, f a (f b c) = f b (f a c)) {l1 l2 : List A} (h : l1.Perm l2) (b : B) : l1.foldr f b = l2.foldr f b := by
  induction h with
  | nil => rfl
  | cons x _ ih => simp only [List.foldr_cons, ih]
  | swap x y l => simp only [List.foldr_cons]; exact hf _ _ _
  | trans _ _ i1 i2 => rw [i1, i2]
def sumI (g : Nat → Int32) (j : Nat) : Nat → Int32
  | 0 => 0
  | d + 1 => g j + sumI g (j + 1) d
theorem sumI_range (g : Nat → Int32) : ∀ d j, sumI g j d = (List.range' j d).foldr (fun i s => g i + s) 0 := by
  intro d
  induction d with
  | zero => intro j; rfl
  | succ d ih => intro j; rw [List.range'_succ, List.foldr_cons, ← ih]; rfl
theorem sumG_range (g : Nat → Nat) : ∀ d j, sumG g j d = (List.range' j d).foldr (fun i s => g i + s) 0 := by
  intro d
  induction d with
  | zero => intro j; rfl
  | succ d ih => intro j; rw [List.range'_succ, List.foldr_cons, ← ih]; rfl
theorem perm_cells : ((List.range' 0 256).map fun c => (c / 4, c % 4)).Perm ((List.range' 0 256).map fun m => (sw (m % 64), m / 64)) := by
  rw [← List.isPerm_iff]
  decide +kernel
theorem sumG_cells (g : Nat → Nat → Nat) : sumG (fun c => g (c / 4) (c % 4)) 0 256 = sumG (fun m => g (sw (m % 64)) (m / 64)) 0 256 := by
  have := perm_foldr (fun (p : Nat × Nat) s => g p.1 p.2 + s) (fun a b c => by omega) perm_cells 0
  rw [List.foldr_map, List.foldr_map] at this
  rw [sumG_range, sumG_range]
  exact this
theorem sumI_cells (g : Nat → Nat → Int32) : sumI (fun c => g (c / 4) (c % 4)) 0 256 = sumI (fun m => g (sw (m % 64)) (m / 64)) 0 256 := by
  have := perm_foldr (fun (p : Nat × Nat) s => g p.1 p.2 + s) (fun a b c => by rw [← Int32.add_assoc, Int32.add_comm (g a.1 a.2), Int32.add_assoc]) perm_cells 0
  rw [List.foldr_map, List.foldr_map] at this
  rw [sumI_range, sumI_range]
  exact this
theorem sw_sw {k : Nat} (h : k < 64) : sw (sw k) = k := by unfold sw; omega
theorem meC_s (σ : St) (f : Nat) (a b c d e : Int32) : fX0_meanEnd_9 σ (f + 1) a b c d e = fX0_meanEnd_9B σ (fX0_meanEnd_9 σ f) a b c d e := rfl
theorem meM_s (σ : St) (f : Nat) (a b c d e : Int32) : fX11_meanOf_8 σ (f + 1) a b c d e = fX11_meanOf_8B σ (fX11_meanOf_8 σ f) a b c d e := rfl
def meanV (a b : Nat) : Int32 := if b = 0 then -1 else nI (a / b)
def optN (o : Option Int32) : Nat := match o with
  | some v => v.toNatClampNeg
  | none => 0
theorem optN_nI {r : Nat} (h : r < 2147483648) : optN (some (nI r)) = r := nI_clamp h
theorem meanC {σ : St} {hr up : Int32} {O E : Nat → Nat → Nat} (hO : ∀ k z, k < 64 → z < 4 → O k z ≤ 99 ∧ σ 6 (4 * k + z) = nI (O k z)) (hE : ∀ k z, k < 64 → z < 4 → E k z ≤ 99 ∧ (if up = 0 then fX0_least σ (nI (4 * k + z)) hr else fX0_greatest σ (nI (4 * k + z)) hr) = some (nI (E k z))) : ∀ (d i f a b : Nat), i + d = 256 → d < f → a ≤ 99 * i → b ≤ i → fX0_meanEnd_9 σ f hr up (nI a) (nI b) (nI i) = some (meanV (a + sumG (fun c => if O (c / 4) (c % 4) = 0 then 0 else E (c / 4) (c % 4)) i d) (b + sumG (fun c => if O (c / 4) (c % 4) = 0 then 0 else 1) i d)) := by
  intro d
  induction d with
  | zero =>
    intro i f a b hi hf ha hb
    obtain ⟨f, rfl⟩ : ∃ g, f = g + 1 := ⟨f - 1, by omega⟩
    rw [meC_s]; unfold fX0_meanEnd_9B
    rw [stN_5, if_pos (nI_le (by omega) (by omega))]
    simp only [sumG, Nat.add_zero]
    unfold meanV
    by_cases c : b = 0
    · rw [if_pos ((nI_le0 (by omega)).mpr c), if_pos c]
    · rw [if_neg (fun q => c ((nI_le0 (by omega)).mp q)), if_neg c, p_nz (fun q => c ((nI_e0 (by omega)).mp q)), pk_div (by omega) (by omega) (by omega)]
  | succ d ih =>
    intro i f a b hi hf ha hb
    obtain ⟨f, rfl⟩ : ∃ g, f = g + 1 := ⟨f - 1, by omega⟩
    have nx : nI i + 1 = nI (i + 1) := (nI_succ i).symm
    have ei : i = 4 * (i / 4) + i % 4 := by omega
    obtain ⟨o1, o2⟩ := hO (i / 4) (i % 4) (by omega) (by omega)
    obtain ⟨e1, e2⟩ := hE (i / 4) (i % 4) (by omega) (by omega)
    rw [← ei] at o2 e2
    rw [meC_s]; unfold fX0_meanEnd_9B
    rw [stN_5, if_neg (show ¬ nI 256 ≤ nI i from fun q => absurd ((nI_leI (by omega) (by omega)).mp q) (by omega)), p_rdN (by omega) (by omega), o2]
    have s1 : ∀ g : Nat → Nat, sumG g i (d + 1) = g i + sumG g (i + 1) d := fun _ => rfl
    rw [s1, s1]
    by_cases c : O (i / 4) (i % 4) = 0
    · rw [if_pos ((nI_le0 (by omega)).mpr c), nx, ih (i + 1) f a b (by omega) (by omega) (by omega) (by omega)]
      simp only [if_pos c, Nat.zero_add]
    · rw [if_neg (fun q => c ((nI_le0 (by omega)).mp q))]
      have e3 : (if up = 0 then (cq (fX0_least σ (nI i) hr) fun r8 => fX0_meanEnd_9 σ f hr up (nI a + r8) (nI b + 1) (nI i + 1)) else (cq (fX0_greatest σ (nI i) hr) fun r10 => fX0_meanEnd_9 σ f hr up (nI a + r10) (nI b + 1) (nI i + 1))) = fX0_meanEnd_9 σ f hr up (nI a + nI (E (i / 4) (i % 4))) (nI b + 1) (nI i + 1) := by
        by_cases u : up = 0
        · rw [if_pos u] at e2 ⊢; rw [e2]; rfl
        · rw [if_neg u] at e2 ⊢; rw [e2]; rfl
      rw [e3, nx, nI_add, show nI b + 1 = nI (b + 1) from (nI_succ b).symm, ih (i + 1) f _ _ (by omega) (by omega) (by omega) (by omega)]
      simp only [if_neg c]
      rw [Nat.add_assoc, Nat.add_assoc]
theorem meanM {τ : St} {hr lo : Int32} {O E : Nat → Nat → Nat} (hO : ∀ k z, k < 64 → z < 4 → O k z ≤ 99 ∧ τ 3 (64 * z + sw k) = nI (O k z)) (hE : ∀ k z, k < 64 → z < 4 → E k z ≤ 99 ∧ fX11_endOf τ (nI (64 * z + sw k)) hr lo = some (nI (E k z))) : ∀ (d i f a b : Nat), i + d = 256 → d < f → a ≤ 99 * i → b ≤ i → fX11_meanOf_8 τ f hr lo (nI a) (nI b) (nI i) = some (meanV (a + sumG (fun m => if O (sw (m % 64)) (m / 64) = 0 then 0 else E (sw (m % 64)) (m / 64)) i d) (b + sumG (fun m => if O (sw (m % 64)) (m / 64) = 0 then 0 else 1) i d)) := by
  intro d
  induction d with
  | zero =>
    intro i f a b hi hf ha hb
    obtain ⟨f, rfl⟩ : ∃ g, f = g + 1 := ⟨f - 1, by omega⟩
    rw [meM_s]; unfold fX11_meanOf_8B
    rw [if_pos (show (256 : Int32) ≤ nI i from nI_le (a := 256) (by omega) (by omega))]
    simp only [sumG, Nat.add_zero]
    unfold meanV
    by_cases c : b = 0
    · rw [if_pos ((nI_e0 (by omega)).mpr c), if_pos c]
    · rw [if_neg (fun q => c ((nI_e0 (by omega)).mp q)), if_neg c, p_nz (fun q => c ((nI_e0 (by omega)).mp q)), pk_div (by omega) (by omega) (by omega)]
  | succ d ih =>
    intro i f a b hi hf ha hb
    obtain ⟨f, rfl⟩ : ∃ g, f = g + 1 := ⟨f - 1, by omega⟩
    have nx : nI i + 1 = nI (i + 1) := (nI_succ i).symm
    have hs := sw_lt (k := i % 64) (by omega)
    have ei : 64 * (i / 64) + sw (sw (i % 64)) = i := by rw [sw_sw (by omega)]; omega
    obtain ⟨o1, o2⟩ := hO (sw (i % 64)) (i / 64) hs (by omega)
    obtain ⟨e1, e2⟩ := hE (sw (i % 64)) (i / 64) hs (by omega)
    rw [ei] at o2 e2
    rw [meM_s]; unfold fX11_meanOf_8B
    rw [if_neg (show ¬ (256 : Int32) ≤ nI i from fun q => absurd ((nI_leI (a := 256) (b := i) (by omega) (by omega)).mp q) (by omega)), p_rdN (by omega) (by omega), o2]
    have s1 : ∀ g : Nat → Nat, sumG g i (d + 1) = g i + sumG g (i + 1) d := fun _ => rfl
    rw [s1, s1]
    by_cases c : O (sw (i % 64)) (i / 64) = 0
    · rw [if_pos ((nI_e0 (by omega)).mpr c), nx, ih (i + 1) f a b (by omega) (by omega) (by omega) (by omega)]
      simp only [if_pos c, Nat.zero_add]
    · rw [if_neg (fun q => c ((nI_e0 (by omega)).mp q)), e2, p_cq, nx, nI_add, show nI b + 1 = nI (b + 1) from (nI_succ b).symm, ih (i + 1) f _ _ (by omega) (by omega) (by omega) (by omega)]
      simp only [if_neg c]
      rw [Nat.add_assoc, Nat.add_assoc]
theorem meanV_cases {a b : Nat} : meanV a b = -1 ∨ ∃ r : Nat, meanV a b = nI r := by
  unfold meanV; split
  · exact Or.inl rfl
  · exact Or.inr ⟨_, rfl⟩
/-- both ends of the mean, both sides; none on one end is none on the other -/
theorem mean_both {σ τ : St} (h : Rel σ τ) (hr : Int32) : ∃ lo hi : Int32, (lo = -1 → hi = -1) ∧ fX0_meanEnd σ hr 0 = some lo ∧ fX11_meanOf τ hr 1 = some lo ∧ fX0_meanEnd σ hr 1 = some hi ∧ fX11_meanOf τ hr 0 = some hi := by
  obtain ⟨hp, O, W, hc, hcc⟩ := g_pile h
  have eb : ∀ k z, k < 64 → z < 4 → _ := fun k z hk hz => ends_both h (k := k) (z := z) hk hz hr
  let E0 : Nat → Nat → Nat := fun k z => optN (fX0_least σ (nI (4 * k + z)) hr)
  let E1 : Nat → Nat → Nat := fun k z => optN (fX0_greatest σ (nI (4 * k + z)) hr)
  have q0 : ∀ k z, k < 64 → z < 4 → E0 k z ≤ 99 ∧ fX0_least σ (nI (4 * k + z)) hr = some (nI (E0 k z)) ∧ fX11_endOf τ (nI (64 * z + sw k)) hr 1 = some (nI (E0 k z)) := by
    intro k z hk hz
    obtain ⟨r, a1, a2, a3⟩ := (eb k z hk hz).1
    have : E0 k z = r := by show optN _ = r; rw [a2, optN_nI (by omega)]
    rw [this]; exact ⟨a1, a2, a3⟩
  have q1 : ∀ k z, k < 64 → z < 4 → E1 k z ≤ 99 ∧ fX0_greatest σ (nI (4 * k + z)) hr = some (nI (E1 k z)) ∧ fX11_endOf τ (nI (64 * z + sw k)) hr 0 = some (nI (E1 k z)) := by
    intro k z hk hz
    obtain ⟨r, a1, a2, a3⟩ := (eb k z hk hz).2
    have : E1 k z = r := by show optN _ = r; rw [a2, optN_nI (by omega)]
    rw [this]; exact ⟨a1, a2, a3⟩
  have o1 : ∀ k z, k < 64 → z < 4 → O k z ≤ 99 ∧ σ 6 (4 * k + z) = nI (O k z) := fun k z hk hz => ⟨(hc.1 k z hk hz).1, (hcc k z hk hz).1⟩
  have o2 : ∀ k z, k < 64 → z < 4 → O k z ≤ 99 ∧ τ 3 (64 * z + sw k) = nI (O k z) := fun k z hk hz => ⟨(hc.1 k z hk hz).1, (hcc k z hk hz).2.2.2.2.1⟩
  have fu : 256 < FU := by rw [FU_eq]; omega
  have A0 := meanC (up := 0) (hr := hr) o1 (E := E0) (fun k z hk hz => ⟨(q0 k z hk hz).1, by rw [if_pos rfl]; exact (q0 k z hk hz).2.1⟩) 256 0 FU 0 0 (by omega) fu (by omega) (by omega)
  have A1 := meanC (up := 1) (hr := hr) o1 (E := E1) (fun k z hk hz => ⟨(q1 k z hk hz).1, by rw [if_neg n10]; exact (q1 k z hk hz).2.1⟩) 256 0 FU 0 0 (by omega) fu (by omega) (by omega)
  have B0 := meanM (lo := 1) (hr := hr) o2 (E := E0) (fun k z hk hz => ⟨(q0 k z hk hz).1, (q0 k z hk hz).2.2⟩) 256 0 FU 0 0 (by omega) fu (by omega) (by omega)
  have B1 := meanM (lo := 0) (hr := hr) o2 (E := E1) (fun k z hk hz => ⟨(q1 k z hk hz).1, (q1 k z hk hz).2.2⟩) 256 0 FU 0 0 (by omega) fu (by omega) (by omega)
  have p0 := sumG_cells (fun k z => if O k z = 0 then 0 else E0 k z)
  have p1 := sumG_cells (fun k z => if O k z = 0 then 0 else E1 k z)
  have pn := sumG_cells (fun k z => if O k z = 0 then 0 else 1)
  rw [← p0, ← pn] at B0
  rw [← p1, ← pn] at B1
  refine ⟨_, _, ?_, A0, B0, A1, B1⟩
  intro q
  unfold meanV at q ⊢
  have b0 := sumG_le (fun c => if O (c / 4) (c % 4) = 0 then 0 else 1) 1 (fun i => by show (if O (i / 4) (i % 4) = 0 then 0 else 1) ≤ 1; split <;> omega) 256 0
  by_cases c : 0 + sumG (fun c => if O (c / 4) (c % 4) = 0 then 0 else 1) 0 256 = 0
  · rw [if_pos c]
  · rw [if_neg c] at q
    have b1 : sumG (fun c => if O (c / 4) (c % 4) = 0 then 0 else E0 (c / 4) (c % 4)) 0 256 ≤ 99 * 256 := by
      rw [sumG_congr (g := fun c => if c < 256 then (if O (c / 4) (c % 4) = 0 then 0 else E0 (c / 4) (c % 4)) else 0) 256 0 (fun i _ hi => by show _ = if i < 256 then _ else _; rw [if_pos (show i < 256 by omega)])]
      refine sumG_le _ 99 (fun i => ?_) 256 0
      show (if i < 256 then (if O (i / 4) (i % 4) = 0 then 0 else E0 (i / 4) (i % 4)) else 0) ≤ 99
      split
      · split
        · omega
        · exact (q0 _ _ (by omega) (by omega)).1
      · omega
    generalize sumG (fun c => if O (c / 4) (c % 4) = 0 then 0 else E0 (c / 4) (c % 4)) 0 256 = x at *
    generalize sumG (fun c => if O (c / 4) (c % 4) = 0 then 0 else 1) 0 256 = y at *
    have : (0 + x) / (0 + y) ≤ 0 + x := Nat.div_le_self _ _
    exact absurd q (nI_m1 (by omega))
theorem opp_20 : op_20 Rel := by
  intro σ τ a0 a1 h
  have ht := rel_told h 0
  by_cases c0 : 0 ≤ a0 ∧ a0 < 720
  rotate_left
  · refine ⟨-1, _, ?_, ?_, ht⟩
    · unfold fX10_mean; rw [wi_f c0, if_pos rfl]
    · unfold fX11_mean fX11_isHour; simp only [p_nmS]; rw [ii_f (by grind), if_pos rfl]
  by_cases c1 : 0 ≤ a1 ∧ a1 < 3
  rotate_left
  · refine ⟨-1, _, ?_, ?_, ht⟩
    · unfold fX10_mean; rw [wi_t c0, if_neg n10, wi_f c1, if_pos rfl]
    · unfold fX11_mean fX11_isHour; simp only [p_nmS]; rw [ii_t (by grind), if_neg n10, ii_f (by grind), if_pos rfl]
  obtain ⟨lo, hi, hx, e1, e2, e3, e4⟩ := mean_both ht a0
  obtain ⟨s1, s2⟩ := g_said ht
  have M : fX11_mean τ a0 a1 = (if a1 = 0 then some (lo, st_put τ 0 0 0) else if lo = -1 then some (lo, st_put τ 0 0 0) else if a1 = 1 then some (hi, st_put τ 0 0 0) else if σ 0 13 = -1 then some (-1, st_put τ 0 0 0) else if σ 0 13 < lo then some (0, st_put τ 0 0 0) else if hi < σ 0 13 then some (0, st_put τ 0 0 0) else some (1, st_put τ 0 0 0)) := by
    unfold fX11_mean fX11_isHour; simp only [p_nmS]
    rw [ii_t (by grind), if_neg n10, ii_t (by grind), if_neg n10, e2, p_cq, e4, p_cq, s1]
  have C : fX10_mean σ a0 a1 = (if 2 ≤ a1 then (if σ 0 13 = -1 then some (-1) else if lo = -1 then some (-1) else if σ 0 13 < lo then some 0 else if hi < σ 0 13 then some 0 else some 1) else if a1 = 1 then some hi else some lo) := by
    unfold fX10_mean fX10_mean_44
    rw [wi_t c0, if_neg n10, wi_t c1, if_neg n10, e1, p_cq, e3, p_cq, p_cq, p_cq]
  rw [M, C]
  by_cases d0 : a1 = 0
  · subst d0; exact ⟨lo, _, by rw [if_neg (by decide), if_neg (by decide)], by rw [if_pos rfl], ht⟩
  by_cases d1 : a1 = 1
  · subst d1
    by_cases dl : lo = -1
    · exact ⟨hi, _, by rw [if_neg (by decide), if_pos rfl], by rw [if_neg (by decide), if_pos dl, hx dl, dl], ht⟩
    · exact ⟨hi, _, by rw [if_neg (by decide), if_pos rfl], by rw [if_neg (by decide), if_neg dl, if_pos rfl], ht⟩
  have d2 : 2 ≤ a1 := by grind
  rw [if_pos d2, if_neg d0, if_neg d1]
  by_cases dl : lo = -1
  · exact ⟨-1, _, by rw [if_pos dl]; split <;> rfl, by rw [if_pos dl, dl], ht⟩
  rw [if_neg dl, if_neg dl]
  by_cases ds : σ 0 13 = -1
  · exact ⟨-1, _, by rw [if_pos ds], by rw [if_pos ds], ht⟩
  rw [if_neg ds, if_neg ds]
  by_cases d5 : σ 0 13 < lo
  · exact ⟨0, _, by rw [if_pos d5], by rw [if_pos d5], ht⟩
  rw [if_neg d5, if_neg d5]
  by_cases d6 : hi < σ 0 13
  · exact ⟨0, _, by rw [if_pos d6], by rw [if_pos d6], ht⟩
  exact ⟨1, _, by rw [if_neg d6], by rw [if_neg d6], ht⟩
