/-! sets of places as numbers below 256 -/
theorem nI_and (a b : Nat) : nI a &&& nI b = nI (a &&& b) := by
  apply Int32.toBitVec_inj.mp
  show (Int32.ofNat a &&& Int32.ofNat b).toBitVec = (Int32.ofNat (a &&& b)).toBitVec
  rw [Int32.toBitVec_and]
  simp [Int32.toBitVec_ofNat', BitVec.ofNat_and]
theorem nI_or (a b : Nat) : nI a ||| nI b = nI (a ||| b) := by
  apply Int32.toBitVec_inj.mp
  show (Int32.ofNat a ||| Int32.ofNat b).toBitVec = (Int32.ofNat (a ||| b)).toBitVec
  rw [Int32.toBitVec_or]
  simp [Int32.toBitVec_ofNat', BitVec.ofNat_or]
theorem andn (x y : Int32) : x &&& (y ^^^ (-1)) = 0 ↔ x &&& y = x := by
  rw [← Int32.toBitVec_inj, ← Int32.toBitVec_inj, Int32.toBitVec_and, Int32.toBitVec_xor, Int32.toBitVec_and]
  show x.toBitVec &&& (y.toBitVec ^^^ BitVec.allOnes 32) = 0#32 ↔ _
  have hO : ∀ i, i < 32 → (BitVec.allOnes 32).getLsbD i = true := fun i hi => by rw [BitVec.getLsbD_allOnes]; simp [hi]
  generalize BitVec.allOnes 32 = o at hO ⊢
  generalize x.toBitVec = a
  generalize y.toBitVec = b
  constructor
  · intro h
    apply BitVec.eq_of_getLsbD_eq
    intro i hi
    have := congrArg (fun v => v.getLsbD i) h
    simp only [BitVec.getLsbD_and, BitVec.getLsbD_xor, BitVec.getLsbD_zero, hO i hi] at this ⊢
    revert this
    cases a.getLsbD i <;> cases b.getLsbD i <;> decide
  · intro h
    apply BitVec.eq_of_getLsbD_eq
    intro i hi
    have := congrArg (fun v => v.getLsbD i) h
    simp only [BitVec.getLsbD_and, BitVec.getLsbD_xor, BitVec.getLsbD_zero, hO i hi] at this ⊢
    revert this
    cases a.getLsbD i <;> cases b.getLsbD i <;> decide
/-- the number of those j below n that p holds of -/
def mk (p : Nat → Bool) : Nat → Nat
  | 0 => 0
  | n + 1 => mk p n ||| (if p n then 2 ^ n else 0)
theorem mk_s (p : Nat → Bool) (n : Nat) : mk p (n + 1) = mk p n ||| (if p n then 2 ^ n else 0) := rfl
theorem mk_bit (p : Nat → Bool) (i : Nat) : ∀ n, (mk p n).testBit i = (decide (i < n) && p i) := by
  intro n
  induction n with
  | zero => simp [mk]
  | succ n ih =>
    rw [mk_s, Nat.testBit_or, ih]
    by_cases e : i = n
    · subst e
      by_cases q : p i
      · simp [q]
      · simp [q]
    · by_cases q : p n
      · rw [if_pos q, Nat.testBit_two_pow]
        have : ¬ n = i := fun w => e w.symm
        by_cases r : i < n
        · simp [this, r, show i < n + 1 by omega]
        · simp [this, r, show ¬ i < n + 1 by omega]
      · rw [if_neg q]
        by_cases r : i < n
        · simp [r, show i < n + 1 by omega]
        · simp [r, show ¬ i < n + 1 by omega]
theorem mk_lt (p : Nat → Bool) : ∀ n, mk p n < 2 ^ n := by
  intro n
  induction n with
  | zero => simp [mk]
  | succ n ih =>
    rw [mk_s]
    refine Nat.or_lt_two_pow (Nat.lt_of_lt_of_le ih (Nat.pow_le_pow_right (by omega) (by omega))) ?_
    split
    · exact Nat.pow_lt_pow_right (by omega) (by omega)
    · exact Nat.two_pow_pos _
theorem shl8 : ∀ j, j < 8 → (1 : Int32) <<< (nI j &&& 31) = nI (2 ^ j) := by decide +kernel
theorem mk_or {p : Nat → Bool} {j : Nat} (hj : j < 8) : (if p j then nI (mk p j) ||| ((1 : Int32) <<< (nI j &&& 31)) else nI (mk p j)) = nI (mk p (j + 1)) := by
  rw [mk_s, shl8 j hj, nI_or]
  split
  · rfl
  · rw [Nat.or_zero]
def pc (s : Nat) : Nat := (s.testBit 0).toNat + (s.testBit 1).toNat + (s.testBit 2).toNat + (s.testBit 3).toNat + (s.testBit 4).toNat + (s.testBit 5).toNat + (s.testBit 6).toNat + (s.testBit 7).toNat
theorem pc_C : ∀ s, s < 256 → fJ6_bitCount_0f7a4 (nI s) = nI (pc s) := by decide +kernel
theorem pc_M : ∀ s, s < 256 → fX11_ones (nI s) = some (nI (pc s)) := by decide +kernel
theorem pc_le (s : Nat) : pc s ≤ 8 := by
  unfold pc
  have : ∀ b : Bool, b.toNat ≤ 1 := by decide
  have h0 := this (s.testBit 0)
  have h1 := this (s.testBit 1)
  have h2 := this (s.testBit 2)
  have h3 := this (s.testBit 3)
  have h4 := this (s.testBit 4)
  have h5 := this (s.testBit 5)
  have h6 := this (s.testBit 6)
  have h7 := this (s.testBit 7)
  omega
theorem pc_lt {s t : Nat} (hs : s < 256) (h : ¬ s &&& t = s) : pc (s &&& t) < pc s := by
  apply Classical.byContradiction
  intro hc
  apply h
  have le : ∀ i, ((s &&& t).testBit i).toNat ≤ (s.testBit i).toNat := by
    intro i; rw [Nat.testBit_and]; cases s.testBit i <;> cases t.testBit i <;> decide
  unfold pc at hc
  have h0 := le 0
  have h1 := le 1
  have h2 := le 2
  have h3 := le 3
  have h4 := le 4
  have h5 := le 5
  have h6 := le 6
  have h7 := le 7
  have inj : ∀ a b : Bool, a.toNat = b.toNat → a = b := by decide
  apply Nat.eq_of_testBit_eq
  intro i
  by_cases hi : i < 8
  · apply inj
    have : i = 0 ∨ i = 1 ∨ i = 2 ∨ i = 3 ∨ i = 4 ∨ i = 5 ∨ i = 6 ∨ i = 7 := by omega
    rcases this with rfl | rfl | rfl | rfl | rfl | rfl | rfl | rfl <;> omega
  · rw [Nat.testBit_and, Nat.testBit_lt_two_pow (x := s) (i := i) (Nat.lt_of_lt_of_le hs (show 2 ^ 8 ≤ 2 ^ i from Nat.pow_le_pow_right (by omega) (by omega)))]
    rfl
/-- which places are near to a cell -/
def nearB (σ : St) (r : Int32) (k z j : Nat) : Bool := decide (¬ σ 39 j = -1 ∧ ¬ r < fX0_distance (σ 39 j) (nI (4 * k + z)))
def nearN (σ : St) (r : Int32) (k z : Nat) : Nat := mk (nearB σ r k z) 8
def toldN (σ : St) : Nat := mk (fun j => decide (¬ σ 39 j = -1)) 8
theorem nearN_lt (σ : St) (r : Int32) (k z : Nat) : nearN σ r k z < 256 := mk_lt _ 8
theorem toldN_lt (σ : St) : toldN σ < 256 := mk_lt _ 8
theorem near_told (σ : St) (r : Int32) (k z : Nat) : nearN σ r k z &&& toldN σ = nearN σ r k z := by
  apply Nat.eq_of_testBit_eq
  intro i
  unfold nearN toldN
  rw [Nat.testBit_and, mk_bit, mk_bit]
  unfold nearB
  by_cases a : i < 8 <;> by_cases b : σ 39 i = -1 <;> simp [a, b]
theorem neC_s (σ : St) (f : Nat) (a b c d : Int32) : fX3_nearTo_5 σ (f + 1) a b c d = fX3_nearTo_5B σ (fX3_nearTo_5 σ f) a b c d := rfl
theorem nearC (σ : St) (r : Int32) (k z : Nat) : ∀ (d j f : Nat), j + d = 8 → d < f → fX3_nearTo_5 σ f (nI (4 * k + z)) r (nI (mk (nearB σ r k z) j)) (nI j) = some (nI (nearN σ r k z)) := by
  intro d
  induction d with
  | zero =>
    intro j f hj hf
    obtain ⟨f, rfl⟩ : ∃ g, f = g + 1 := ⟨f - 1, by omega⟩
    have hj8 : j = 8 := by omega
    subst hj8
    rw [neC_s]; unfold fX3_nearTo_5B
    have hl := nearN_lt σ r k z
    rw [if_pos (show (8 : Int32) ≤ nI 8 by decide), show (255 : Int32) = nI 255 from rfl, nI_and]
    show some (nI (nearN σ r k z &&& 255)) = _
    rw [show (255 : Nat) = 2 ^ 8 - 1 from rfl, Nat.and_two_pow_sub_one_eq_mod, Nat.mod_eq_of_lt hl]
  | succ d ih =>
    intro j f hj hf
    obtain ⟨f, rfl⟩ : ∃ g, f = g + 1 := ⟨f - 1, by omega⟩
    rw [neC_s]; unfold fX3_nearTo_5B
    have st := mk_or (p := nearB σ r k z) (show j < 8 by omega)
    rw [if_neg (show ¬ (8 : Int32) ≤ nI j from c_less (n := 8) j (by omega) (by omega)), p_rdN (by omega) (by omega), p_rdN (by omega) (by omega), show nI j + 1 = nI (j + 1) from (nI_succ j).symm]
    have i2 := ih (j + 1) f (by omega) (by omega)
    by_cases c1 : σ 39 j = -1
    · have nb : nearB σ r k z j = false := by unfold nearB; simp [c1]
      rw [nb, if_neg (by decide)] at st
      rw [if_pos c1, st]; exact i2
    · rw [if_neg c1]
      by_cases c2 : r < fX0_distance (σ 39 j) (nI (4 * k + z))
      · have nb : nearB σ r k z j = false := by unfold nearB; simp [c2]
        rw [nb, if_neg (by decide)] at st
        rw [if_pos c2, st]; exact i2
      · have nb : nearB σ r k z j = true := by unfold nearB; simp [c1, c2]
        rw [nb, if_pos rfl] at st
        rw [if_neg c2, st]; exact i2
theorem nearTo_spec (σ : St) (r : Int32) (k z : Nat) : fX3_nearTo σ (nI (4 * k + z)) r = some (nI (nearN σ r k z)) := nearC σ r k z 8 0 FU (by omega) (by rw [FU_eq]; omega)
theorem nearN_congr {σ σ' : St} (h : σ' 39 = σ 39) (r : Int32) (k z : Nat) : nearN σ' r k z = nearN σ r k z := by unfold nearN; congr 1; funext j; unfold nearB; rw [h]
theorem fn2_s (f : Nat) (σ : St) (a b : Int32) : fX3_findNeeded_2 (f + 1) σ a b = fX3_findNeeded_2B (fX3_findNeeded_2 f) σ a b := rfl
theorem fn24_s (f : Nat) (σ : St) (a b : Int32) : fX3_findNeeded_24 (f + 1) σ a b = fX3_findNeeded_24B (fX3_findNeeded_24 f) σ a b := rfl
theorem bo0 : vp_nar .boolean 0 = 0 := by decide
theorem bo1 : vp_nar .boolean 1 = 1 := by decide
theorem clear_need (r : Int32) : ∀ (d i f : Nat) (σ : St), i + d = 256 → d < f → (∀ j, j < i → σ 40 j = 0) → ∃ σ', fX3_findNeeded_2 f σ r (nI i) = fX3_findNeeded_24 FU σ' r 0 ∧ (∀ a, ¬ a = 40 → σ' a = σ a) ∧ ∀ j, j < 256 → σ' 40 j = 0 := by
  intro d
  induction d with
  | zero =>
    intro i f σ hi hf h0
    obtain ⟨f, rfl⟩ : ∃ g, f = g + 1 := ⟨f - 1, by omega⟩
    rw [fn2_s]; unfold fX3_findNeeded_2B
    rw [if_pos (show (256 : Int32) ≤ nI i from c_full (n := 256) i (by omega) (by omega))]
    exact ⟨σ, rfl, fun _ _ => rfl, fun j hj => h0 j (by omega)⟩
  | succ d ih =>
    intro i f σ hi hf h0
    obtain ⟨f, rfl⟩ : ∃ g, f = g + 1 := ⟨f - 1, by omega⟩
    rw [fn2_s]; unfold fX3_findNeeded_2B
    rw [if_neg (show ¬ (256 : Int32) ≤ nI i from c_less (n := 256) i (by omega) (by omega)), p_wrN (by omega) (by omega), bo0, show nI i + 1 = nI (i + 1) from (nI_succ i).symm]
    obtain ⟨σ', e1, e2, e3⟩ := ih (i + 1) f (st_put σ 40 i 0) (by omega) (by omega) (fun j hj => by
      rw [sp_same]
      by_cases e : j = i
      · rw [e, up_same]
      · rw [up_ne e]; exact h0 j (by omega))
    exact ⟨σ', e1, fun a ha => by rw [e2 a ha, sp_ne ha], e3⟩
theorem need_loop {σ0 : St} {r : Int32} {O : Nat → Nat → Nat} (hO : ∀ k z, k < 64 → z < 4 → O k z ≤ 99 ∧ σ0 6 (4 * k + z) = nI (O k z)) : ∀ (d i f : Nat) (σ : St), i + d = 256 → d < f → (∀ a, ¬ a = 40 → σ a = σ0 a) → (∀ j, j < 256 → (¬ σ 40 j = 0 ↔ ∃ k z, k < 64 ∧ z < 4 ∧ 4 * k + z < i ∧ 0 < O k z ∧ nearN σ0 r k z = j)) → ∃ σ', fX3_findNeeded_24 f σ r (nI i) = some σ' ∧ (∀ a, ¬ a = 40 → σ' a = σ0 a) ∧ ∀ j, j < 256 → (¬ σ' 40 j = 0 ↔ ∃ k z, k < 64 ∧ z < 4 ∧ 0 < O k z ∧ nearN σ0 r k z = j) := by
  intro d
  induction d with
  | zero =>
    intro i f σ hi hf hs hn
    obtain ⟨f, rfl⟩ : ∃ g, f = g + 1 := ⟨f - 1, by omega⟩
    rw [fn24_s]; unfold fX3_findNeeded_24B
    rw [stN_5, if_pos (c_full (n := 256) i (by omega) (by omega))]
    refine ⟨σ, rfl, hs, fun j hj => ?_⟩
    rw [hn j hj]
    constructor
    · rintro ⟨k, z, h1, h2, h3, h4, h5⟩; exact ⟨k, z, h1, h2, h4, h5⟩
    · rintro ⟨k, z, h1, h2, h4, h5⟩; exact ⟨k, z, h1, h2, by omega, h4, h5⟩
  | succ d ih =>
    intro i f σ hi hf hs hn
    obtain ⟨f, rfl⟩ : ∃ g, f = g + 1 := ⟨f - 1, by omega⟩
    have ei : i = 4 * (i / 4) + i % 4 := by omega
    obtain ⟨o1, o2⟩ := hO (i / 4) (i % 4) (by omega) (by omega)
    rw [← ei] at o2
    rw [fn24_s]; unfold fX3_findNeeded_24B
    rw [stN_5, if_neg (c_less (n := 256) i (by omega) (by omega)), p_rdN (by omega) (by omega), hs 6 (by omega), o2, show nI i + 1 = nI (i + 1) from (nI_succ i).symm]
    by_cases c : O (i / 4) (i % 4) = 0
    · rw [if_pos ((nI_le0 (by omega)).mpr c)]
      refine ih (i + 1) f σ (by omega) (by omega) hs (fun j hj => ?_)
      rw [hn j hj]
      constructor
      · rintro ⟨k, z, h1, h2, h3, h4, h5⟩; exact ⟨k, z, h1, h2, by omega, h4, h5⟩
      · rintro ⟨k, z, h1, h2, h3, h4, h5⟩
        refine ⟨k, z, h1, h2, ?_, h4, h5⟩
        rcases Nat.lt_or_ge (4 * k + z) i with q | q
        · exact q
        · exfalso
          rw [show k = i / 4 by omega, show z = i % 4 by omega] at h4
          omega
    · rw [if_neg (fun q => c ((nI_le0 (by omega)).mp q))]
      have nt : fX3_nearTo σ (nI i) r = some (nI (nearN σ0 r (i / 4) (i % 4))) := by
        have := nearTo_spec σ r (i / 4) (i % 4)
        rw [← ei, nearN_congr (hs 39 (by omega))] at this
        exact this
      have nl := nearN_lt σ0 r (i / 4) (i % 4)
      rw [nt, p_cq, p_wrN nl (by omega), bo1]
      refine ih (i + 1) f _ (by omega) (by omega) (fun a ha => by rw [sp_ne ha]; exact hs a ha) (fun j hj => ?_)
      rw [sp_same]
      by_cases e : j = nearN σ0 r (i / 4) (i % 4)
      · rw [e, up_same]
        refine ⟨fun _ => ⟨i / 4, i % 4, by omega, by omega, by omega, by omega, rfl⟩, fun _ => n10⟩
      · rw [up_ne e, hn j hj]
        constructor
        · rintro ⟨k, z, h1, h2, h3, h4, h5⟩; exact ⟨k, z, h1, h2, by omega, h4, h5⟩
        · rintro ⟨k, z, h1, h2, h3, h4, h5⟩
          refine ⟨k, z, h1, h2, ?_, h4, h5⟩
          rcases Nat.lt_or_ge (4 * k + z) i with q | q
          · exact q
          · exfalso
            rw [show k = i / 4 by omega, show z = i % 4 by omega] at h5
            exact e h5.symm
/-- every ore is near to one of the set -/
def fairP (σ : St) (r : Int32) (O : Nat → Nat → Nat) (s : Nat) : Prop := ∀ k z, k < 64 → z < 4 → 0 < O k z → ¬ nearN σ r k z &&& s = 0
theorem ifC_s (σ : St) (f : Nat) (a b : Int32) : fX3_isFair_2 σ (f + 1) a b = fX3_isFair_2B σ (fX3_isFair_2 σ f) a b := rfl
theorem ifM_s (σ : St) (f : Nat) (a b : Int32) : fX11_isFair_2 σ (f + 1) a b = fX11_isFair_2B σ (fX11_isFair_2 σ f) a b := rfl
theorem and_e0 {a b : Nat} (ha : a < 256) : nI a &&& nI b = 0 ↔ a &&& b = 0 := by
  rw [nI_and]
  have : a &&& b ≤ a := Nat.and_le_left
  exact nI_e0 (by omega)
theorem isFairC {σ0 σ : St} {r : Int32} {O : Nat → Nat → Nat} {s : Nat} (hn : ∀ j, j < 256 → (¬ σ 40 j = 0 ↔ ∃ k z, k < 64 ∧ z < 4 ∧ 0 < O k z ∧ nearN σ0 r k z = j)) : ∀ (d i f : Nat), i + d = 256 → d < f → (∀ k z, k < 64 → z < 4 → 0 < O k z → nearN σ0 r k z < i → ¬ nearN σ0 r k z &&& s = 0) → (fX3_isFair_2 σ f (nI s) (nI i) = some 1 ∧ fairP σ0 r O s) ∨ (fX3_isFair_2 σ f (nI s) (nI i) = some 0 ∧ ¬ fairP σ0 r O s) := by
  intro d
  induction d with
  | zero =>
    intro i f hi hf hp
    obtain ⟨f, rfl⟩ : ∃ g, f = g + 1 := ⟨f - 1, by omega⟩
    rw [ifC_s]; unfold fX3_isFair_2B
    rw [if_pos (show (256 : Int32) ≤ nI i from c_full (n := 256) i (by omega) (by omega))]
    exact Or.inl ⟨rfl, fun k z hk hz ho => hp k z hk hz ho (by have := nearN_lt σ0 r k z; omega)⟩
  | succ d ih =>
    intro i f hi hf hp
    obtain ⟨f, rfl⟩ : ∃ g, f = g + 1 := ⟨f - 1, by omega⟩
    rw [ifC_s]; unfold fX3_isFair_2B
    rw [if_neg (show ¬ (256 : Int32) ≤ nI i from c_less (n := 256) i (by omega) (by omega)), p_rdN (by omega) (by omega), show nI i + 1 = nI (i + 1) from (nI_succ i).symm]
    by_cases c : σ 40 i = 0
    · rw [if_pos c]
      refine ih (i + 1) f (by omega) (by omega) (fun k z hk hz ho hl => ?_)
      rcases Nat.lt_or_ge (nearN σ0 r k z) i with q | q
      · exact hp k z hk hz ho q
      · exact absurd c ((hn i (by omega)).mpr ⟨k, z, hk, hz, ho, by omega⟩)
    · rw [if_neg c]
      by_cases c2 : i &&& s = 0
      · rw [if_pos ((and_e0 (by omega)).mpr c2)]
        obtain ⟨k, z, hk, hz, ho, e⟩ := (hn i (by omega)).mp c
        exact Or.inr ⟨rfl, fun w => w k z hk hz ho (by rw [e]; exact c2)⟩
      · rw [if_neg (fun q => c2 ((and_e0 (by omega)).mp q))]
        refine ih (i + 1) f (by omega) (by omega) (fun k z hk hz ho hl => ?_)
        rcases Nat.lt_or_ge (nearN σ0 r k z) i with q | q
        · exact hp k z hk hz ho q
        · rw [show nearN σ0 r k z = i by omega]; exact c2
theorem isFairM {σ0 τ : St} {r : Int32} {O : Nat → Nat → Nat} {s : Nat} (hO : ∀ k z, k < 64 → z < 4 → O k z ≤ 99 ∧ τ 3 (64 * z + sw k) = nI (O k z)) (hn : ∀ k z, k < 64 → z < 4 → τ 34 (64 * z + sw k) = nI (nearN σ0 r k z)) : ∀ (d i f : Nat), i + d = 256 → d < f → (∀ k z, k < 64 → z < 4 → 64 * z + sw k < i → 0 < O k z → ¬ nearN σ0 r k z &&& s = 0) → (fX11_isFair_2 τ f (nI s) (nI i) = some 1 ∧ fairP σ0 r O s) ∨ (fX11_isFair_2 τ f (nI s) (nI i) = some 0 ∧ ¬ fairP σ0 r O s) := by
  intro d
  induction d with
  | zero =>
    intro i f hi hf hp
    obtain ⟨f, rfl⟩ : ∃ g, f = g + 1 := ⟨f - 1, by omega⟩
    rw [ifM_s]; unfold fX11_isFair_2B
    rw [if_pos (show (256 : Int32) ≤ nI i from c_full (n := 256) i (by omega) (by omega))]
    exact Or.inl ⟨rfl, fun k z hk hz ho => hp k z hk hz (by have := sw_lt hk; omega) ho⟩
  | succ d ih =>
    intro i f hi hf hp
    obtain ⟨f, rfl⟩ : ∃ g, f = g + 1 := ⟨f - 1, by omega⟩
    have hs := sw_lt (k := i % 64) (by omega)
    have ei : 64 * (i / 64) + sw (sw (i % 64)) = i := by rw [sw_sw (by omega)]; omega
    obtain ⟨o1, o2⟩ := hO (sw (i % 64)) (i / 64) hs (by omega)
    have n2 := hn (sw (i % 64)) (i / 64) hs (by omega)
    rw [ei] at o2 n2
    have un : ∀ k z, k < 64 → z < 4 → ¬ 64 * z + sw k < i → 64 * z + sw k < i + 1 → k = sw (i % 64) ∧ z = i / 64 := by
      intro k z hk hz h1 h2
      have := sw_lt hk
      have e1 : z = i / 64 := by omega
      refine ⟨?_, e1⟩
      have e2 : sw k = i % 64 := by omega
      rw [← e2, sw_sw hk]
    rw [ifM_s]; unfold fX11_isFair_2B
    rw [if_neg (show ¬ (256 : Int32) ≤ nI i from c_less (n := 256) i (by omega) (by omega)), p_rdN (by omega) (by omega), p_rdN (by omega) (by omega), o2, n2, show nI i + 1 = nI (i + 1) from (nI_succ i).symm]
    by_cases c : O (sw (i % 64)) (i / 64) = 0
    · rw [if_pos ((nI_le0 (by omega)).mpr c)]
      refine ih (i + 1) f (by omega) (by omega) (fun k z hk hz hl ho => ?_)
      by_cases q : 64 * z + sw k < i
      · exact hp k z hk hz q ho
      · obtain ⟨rfl, rfl⟩ := un k z hk hz q hl
        omega
    · rw [if_neg (fun q => c ((nI_le0 (by omega)).mp q))]
      by_cases c2 : nearN σ0 r (sw (i % 64)) (i / 64) &&& s = 0
      · rw [if_pos ((and_e0 (nearN_lt _ _ _ _)).mpr c2)]
        exact Or.inr ⟨rfl, fun w => w _ _ hs (by omega) (by omega) c2⟩
      · rw [if_neg (fun q => c2 ((and_e0 (nearN_lt _ _ _ _)).mp q))]
        refine ih (i + 1) f (by omega) (by omega) (fun k z hk hz hl ho => ?_)
        by_cases q : 64 * z + sw k < i
        · exact hp k z hk hz q ho
        · obtain ⟨rfl, rfl⟩ := un k z hk hz q hl
          exact c2
theorem f69_s (r : St → Int32 → Int32 → Int32 → Option (Int32 × St)) (f : Nat) (τ : St) (a b c d : Int32) : fX11_fair_69 r (f + 1) τ a b c d = fX11_fair_69B r (fX11_fair_69 r f) τ a b c d := rfl
theorem f52_s (f : Nat) (τ : St) (a b c : Int32) : fX11_fair_52 (f + 1) τ a b c = fX11_fair_52B (fX11_fair_52 f) τ a b c := rfl
theorem f22_s (f : Nat) (τ : St) (a b c : Int32) : fX11_fair_22 (f + 1) τ a b c = fX11_fair_22B (fX11_fair_22 f) τ a b c := rfl
theorem f137_s (f : Nat) (τ : St) (a b c : Int32) : fX11_fair_137 (f + 1) τ a b c = fX11_fair_137B (fX11_fair_137 f) τ a b c := rfl
theorem f11_s (f : Nat) (σ : St) (a b : Int32) : fX3_fewest_11 (f + 1) σ a b = fX3_fewest_11B (fX3_fewest_11 f) σ a b := rfl
/-- how the model sees a told place -/
def r_near (σ : St) (b : Nat → Int32) (r : Int32) : Prop := ∀ j, j < 8 → (b j = -1 ↔ σ 39 j = -1) ∧ (¬ σ 39 j = -1 → ∀ k z, k < 64 → z < 4 → fX11_distance (nI (64 * z + sw k)) (b j) = fX0_distance (σ 39 j) (nI (4 * k + z)))
theorem r_near_of {σ : St} {b : Nat → Int32} (h : r_places (σ 39) b) (r : Int32) : r_near σ b r := by
  intro j hj
  rcases h j hj with ⟨q1, q2⟩ | ⟨k', z', hk', hz', q1, q2⟩
  · exact ⟨⟨fun _ => q1, fun _ => q2⟩, fun q => absurd q1 q⟩
  · have s3 := sw_lt hk'
    refine ⟨⟨fun q => ?_, fun q => ?_⟩, fun _ k z hk hz => ?_⟩
    · rw [q2] at q; exact absurd q (nI_m1 (by omega))
    · rw [q1] at q; exact absurd q (nI_m1 (by omega))
    · rw [q1, q2, distM hk hz hk' hz', distC hk' hz' hk hz, dN_comm]
theorem told_loop {σ : St} {r : Int32} : ∀ (d j f : Nat) (τ : St), j + d = 8 → d < f → r_near σ (τ 33) r → fX11_fair_22 f τ r (nI (mk (fun j => decide (¬ σ 39 j = -1)) j)) (nI j) = fX11_fair_52 FU τ r (nI (toldN σ)) 0 := by
  intro d
  induction d with
  | zero =>
    intro j f τ hj hf hn
    obtain ⟨f, rfl⟩ : ∃ g, f = g + 1 := ⟨f - 1, by omega⟩
    have hj8 : j = 8 := by omega
    subst hj8
    rw [f22_s]; unfold fX11_fair_22B
    rw [if_pos (show (8 : Int32) ≤ nI 8 by decide)]
    rfl
  | succ d ih =>
    intro j f τ hj hf hn
    obtain ⟨f, rfl⟩ : ∃ g, f = g + 1 := ⟨f - 1, by omega⟩
    have st := mk_or (p := fun j => decide (¬ σ 39 j = -1)) (show j < 8 by omega)
    rw [f22_s]; unfold fX11_fair_22B
    rw [if_neg (show ¬ (8 : Int32) ≤ nI j from c_less (n := 8) j (by omega) (by omega)), p_rdN (by omega) (by omega), show nI j + 1 = nI (j + 1) from (nI_succ j).symm]
    have i2 := ih (j + 1) f τ (by omega) (by omega) hn
    by_cases c : σ 39 j = -1
    · rw [if_pos ((hn j (by omega)).1.mpr c)]
      rw [if_neg (by simp [c])] at st
      rw [st]; exact i2
    · rw [if_neg (fun q => c ((hn j (by omega)).1.mp q))]
      rw [if_pos (by simp [c])] at st
      rw [st]; exact i2
theorem near_loop {σ : St} {r T : Int32} {rec : St → Int32 → Int32 → Int32 → Option (Int32 × St)} {k z : Nat} (hk : k < 64) (hz : z < 4) : ∀ (d j f : Nat) (τ : St), j + d = 8 → d < f → r_near σ (τ 33) r → τ 34 (64 * z + sw k) = nI (mk (nearB σ r k z) j) → ∃ τ', fX11_fair_69 rec f τ r T (nI (64 * z + sw k)) (nI j) = rec τ' r T (nI (64 * z + sw k) + 1) ∧ (∀ a, ¬ a = 34 → τ' a = τ a) ∧ (∀ i, ¬ i = 64 * z + sw k → τ' 34 i = τ 34 i) ∧ τ' 34 (64 * z + sw k) = nI (nearN σ r k z) := by
  have hs := sw_lt hk
  intro d
  induction d with
  | zero =>
    intro j f τ hj hf hn he
    obtain ⟨f, rfl⟩ : ∃ g, f = g + 1 := ⟨f - 1, by omega⟩
    have hj8 : j = 8 := by omega
    subst hj8
    rw [f69_s]; unfold fX11_fair_69B
    rw [if_pos (show (8 : Int32) ≤ nI 8 by decide)]
    exact ⟨τ, rfl, fun _ _ => rfl, fun _ _ => rfl, he⟩
  | succ d ih =>
    intro j f τ hj hf hn he
    obtain ⟨f, rfl⟩ : ∃ g, f = g + 1 := ⟨f - 1, by omega⟩
    have st := mk_or (p := nearB σ r k z) (show j < 8 by omega)
    rw [f69_s]; unfold fX11_fair_69B
    rw [if_neg (show ¬ (8 : Int32) ≤ nI j from c_less (n := 8) j (by omega) (by omega)), p_rdN (by omega) (by omega), p_rdN (by omega) (by omega), show nI j + 1 = nI (j + 1) from (nI_succ j).symm]
    by_cases c : σ 39 j = -1
    · have nb : nearB σ r k z j = false := by unfold nearB; simp [c]
      rw [nb, if_neg (by decide)] at st
      rw [if_pos ((hn j (by omega)).1.mpr c)]
      exact ih (j + 1) f τ (by omega) (by omega) hn (by rw [he, st])
    · rw [if_neg (fun q => c ((hn j (by omega)).1.mp q)), (hn j (by omega)).2 c k z hk hz]
      by_cases c2 : r < fX0_distance (σ 39 j) (nI (4 * k + z))
      · have nb : nearB σ r k z j = false := by unfold nearB; simp [c2]
        rw [nb, if_neg (by decide)] at st
        rw [if_pos c2]
        exact ih (j + 1) f τ (by omega) (by omega) hn (by rw [he, st])
      · have nb : nearB σ r k z j = true := by unfold nearB; simp [c, c2]
        rw [nb, if_pos rfl] at st
        rw [if_neg c2, p_rdN (by omega) (by omega), p_wrN (by omega) (by omega), he, st]
        obtain ⟨τ', e1, e2, e3, e4⟩ := ih (j + 1) f (st_put τ 34 (64 * z + sw k) (nI (mk (nearB σ r k z) (j + 1)))) (by omega) (by omega) (by rw [sp_ne (by omega)]; exact hn) (by rw [sp_same, up_same])
        refine ⟨τ', e1, fun a ha => by rw [e2 a ha, sp_ne ha], fun i hi => by rw [e3 i hi, sp_same, up_ne hi], e4⟩
theorem all_near {σ : St} {r T : Int32} : ∀ (d i f : Nat) (τ : St), i + d = 256 → d < f → r_near σ (τ 33) r → (∀ k z, k < 64 → z < 4 → 64 * z + sw k < i → τ 34 (64 * z + sw k) = nI (nearN σ r k z)) → ∃ τ', fX11_fair_52 f τ r T (nI i) = fX11_fair_137 FU τ' T (-1) 0 ∧ (∀ a, ¬ a = 34 → τ' a = τ a) ∧ ∀ k z, k < 64 → z < 4 → τ' 34 (64 * z + sw k) = nI (nearN σ r k z) := by
  intro d
  induction d with
  | zero =>
    intro i f τ hi hf hn he
    obtain ⟨f, rfl⟩ : ∃ g, f = g + 1 := ⟨f - 1, by omega⟩
    rw [f52_s]; unfold fX11_fair_52B
    rw [if_pos (show (256 : Int32) ≤ nI i from c_full (n := 256) i (by omega) (by omega))]
    exact ⟨τ, rfl, fun _ _ => rfl, fun k z hk hz => he k z hk hz (by have := sw_lt hk; omega)⟩
  | succ d ih =>
    intro i f τ hi hf hn he
    obtain ⟨f, rfl⟩ : ∃ g, f = g + 1 := ⟨f - 1, by omega⟩
    have hs := sw_lt (k := i % 64) (by omega)
    have ei : 64 * (i / 64) + sw (sw (i % 64)) = i := by rw [sw_sw (by omega)]; omega
    rw [f52_s]; unfold fX11_fair_52B
    rw [if_neg (show ¬ (256 : Int32) ≤ nI i from c_less (n := 256) i (by omega) (by omega)), p_wrN (by omega) (by omega)]
    obtain ⟨τ1, e1, e2, e3, e4⟩ := near_loop (σ := σ) (r := r) (T := T) (rec := fX11_fair_52 f) (k := sw (i % 64)) (z := i / 64) hs (by omega) 8 0 FU (st_put τ 34 i 0) (by omega) (by rw [FU_eq]; omega) (by rw [sp_ne (by omega)]; exact hn) (by rw [ei, sp_same, up_same]; rfl)
    rw [ei] at e1 e3 e4
    rw [show (0 : Int32) = nI 0 from rfl] at *
    rw [e1, ← nI_succ]
    obtain ⟨τ2, f1, f2, f3⟩ := ih (i + 1) f τ1 (by omega) (by omega) (by rw [e2 33 (by omega), sp_ne (by omega)]; exact hn) (fun k z hk hz hl => by
      have hsk := sw_lt hk
      by_cases q : 64 * z + sw k = i
      · have ez : z = i / 64 := by omega
        have ek : sw k = i % 64 := by omega
        rw [q, e4, ez, ← ek, sw_sw hk]
      · rw [e3 _ q, sp_same, up_ne q]; exact he k z hk hz (by omega))
    exact ⟨τ2, f1, fun a ha => by rw [f2 a ha, e2 a ha, sp_ne ha], f3⟩
/-- the fewest: both sides go through the sets together -/
theorem few_both {σ0 σ τ : St} {r : Int32} {O : Nat → Nat → Nat} (hfC : ∀ s, s < 256 → (fX3_isFair σ (nI s) = some 1 ∧ fairP σ0 r O s) ∨ (fX3_isFair σ (nI s) = some 0 ∧ ¬ fairP σ0 r O s)) (hfM : ∀ s, s < 256 → (fX11_isFair τ (nI s) = some 1 ∧ fairP σ0 r O s) ∨ (fX11_isFair τ (nI s) = some 0 ∧ ¬ fairP σ0 r O s)) : ∀ (d s f : Nat) (x : Int32), s + d = 256 → d < f → ((x = -1 ∧ ∀ t, t < s → ¬ fairP σ0 r O t) ∨ ∃ b, b < 256 ∧ x = nI b ∧ ∀ t, t < s → fairP σ0 r O t → pc b ≤ pc t) → ∃ v, fX3_fewest_11 f σ x (nI s) = some (v, σ) ∧ fX11_fair_137 f τ (nI (toldN σ0)) x (nI s) = some (v, τ) := by
  intro d
  induction d with
  | zero =>
    intro s f x hs hf hx
    obtain ⟨f, rfl⟩ : ∃ g, f = g + 1 := ⟨f - 1, by omega⟩
    rw [f11_s, f137_s]; unfold fX3_fewest_11B fX11_fair_137B
    rw [if_pos (show (256 : Int32) ≤ nI s from c_full (n := 256) s (by omega) (by omega)), if_pos (show (256 : Int32) ≤ nI s from c_full (n := 256) s (by omega) (by omega))]
    exact ⟨x, rfl, rfl⟩
  | succ d ih =>
    intro s f x hs hf hx
    obtain ⟨f, rfl⟩ : ∃ g, f = g + 1 := ⟨f - 1, by omega⟩
    have s256 : s < 256 := by omega
    have C := hfC s s256
    have M := hfM s s256
    have keep : (x = -1 ∧ ¬ fairP σ0 r O s ∨ (∃ b, b < 256 ∧ x = nI b ∧ (fairP σ0 r O s → pc b ≤ pc s))) → ∃ v, fX3_fewest_11 f σ x (nI (s + 1)) = some (v, σ) ∧ fX11_fair_137 f τ (nI (toldN σ0)) x (nI (s + 1)) = some (v, τ) := by
      intro q
      refine ih (s + 1) f x (by omega) (by omega) ?_
      rcases hx with ⟨h1, h2⟩ | ⟨b, hb, h1, h2⟩
      · rcases q with ⟨q1, q2⟩ | ⟨b, hb, q1, _⟩
        · refine Or.inl ⟨h1, fun t ht => ?_⟩
          by_cases e : t = s
          · rw [e]; exact q2
          · exact h2 t (by omega)
        · rw [h1] at q1; exact absurd q1.symm (nI_m1 (by omega))
      · rcases q with ⟨q1, _⟩ | ⟨b', hb', q1, q2⟩
        · rw [h1] at q1; exact absurd q1 (nI_m1 (by omega))
        · have e : b = b' := (nI_eq (by omega) (by omega)).mp (by rw [← h1, ← q1])
          subst e
          refine Or.inr ⟨b, hb, h1, fun t ht hft => ?_⟩
          by_cases e : t = s
          · rw [e] at hft ⊢; exact q2 hft
          · exact h2 t (by omega) hft
    have take : fairP σ0 r O s → (∀ t, t < s → fairP σ0 r O t → pc s ≤ pc t) → ∃ v, fX3_fewest_11 f σ (nI s) (nI (s + 1)) = some (v, σ) ∧ fX11_fair_137 f τ (nI (toldN σ0)) (nI s) (nI (s + 1)) = some (v, τ) := by
      intro q1 q2
      refine ih (s + 1) f (nI s) (by omega) (by omega) (Or.inr ⟨s, s256, rfl, fun t ht hft => ?_⟩)
      by_cases e : t = s
      · rw [e]; exact Nat.le_refl _
      · exact q2 t (by omega) hft
    rw [f11_s, f137_s]; unfold fX3_fewest_11B fX11_fair_137B fX3_fewest_41 fX11_fair_173
    rw [if_neg (show ¬ (256 : Int32) ≤ nI s from c_less (n := 256) s (by omega) (by omega)), if_neg (show ¬ (256 : Int32) ≤ nI s from c_less (n := 256) s (by omega) (by omega)), if_neg n10, if_pos (show (0 : Int32) = 0 from rfl), show nI s + 1 = nI (s + 1) from (nI_succ s).symm, pc_C s s256, pc_M s s256, p_cq]
    have sub : ¬ s &&& toldN σ0 = s → fairP σ0 r O s → ∃ b, b < 256 ∧ x = nI b ∧ pc b ≤ pc (s &&& toldN σ0) ∧ pc (s &&& toldN σ0) < pc s := by
      intro q hf'
      have le : s &&& toldN σ0 ≤ s := Nat.and_le_left
      have ft : fairP σ0 r O (s &&& toldN σ0) := by
        intro k z hk hz ho e
        refine hf' k z hk hz ho ?_
        rw [← near_told, Nat.and_assoc, Nat.and_comm (toldN σ0) s]
        exact e
      rcases hx with ⟨h1, h2⟩ | ⟨b, hb, h1, h2⟩
      · exact absurd ft (h2 _ (by omega))
      · exact ⟨b, hb, h1, h2 _ (by omega) ft, pc_lt s256 q⟩
    by_cases c : s &&& toldN σ0 = s
    · rw [if_pos ((andn _ _).mpr (by rw [nI_and, c]))]
      rcases hx with ⟨h1, h2⟩ | ⟨b, hb, h1, h2⟩
      · rw [if_pos h1, if_pos h1]
        rcases C with ⟨C1, C2⟩ | ⟨C1, C2⟩
        · rcases M with ⟨M1, _⟩ | ⟨_, M2⟩
          · rw [C1, M1, p_cq, p_cq, if_neg n10, if_neg n10]
            exact take C2 (fun t ht hft => absurd hft (h2 t ht))
          · exact absurd C2 M2
        · rcases M with ⟨_, M2⟩ | ⟨M1, _⟩
          · exact absurd M2 C2
          · rw [C1, M1, p_cq, p_cq, if_pos rfl, if_pos rfl]
            exact keep (Or.inl ⟨h1, C2⟩)
      · have nx : ¬ x = -1 := by rw [h1]; exact nI_m1 (by omega)
        rw [if_neg nx, if_neg nx, h1, pc_C b hb, pc_M b hb, p_cq]
        have p1 := pc_le b
        have p2 := pc_le s
        by_cases le : pc b ≤ pc s
        · rw [if_pos (nI_le le (by omega)), if_pos (nI_le le (by omega)), ← h1]
          exact keep (Or.inr ⟨b, hb, h1, fun _ => le⟩)
        · rw [if_neg (fun q => le ((nI_leI (by omega) (by omega)).mp q)), if_neg (fun q => le ((nI_leI (by omega) (by omega)).mp q))]
          rcases C with ⟨C1, C2⟩ | ⟨C1, C2⟩
          · rcases M with ⟨M1, _⟩ | ⟨_, M2⟩
            · rw [C1, M1, p_cq, p_cq, if_neg n10, if_neg n10]
              exact take C2 (fun t ht hft => by have := h2 t ht hft; omega)
            · exact absurd C2 M2
          · rcases M with ⟨_, M2⟩ | ⟨M1, _⟩
            · exact absurd M2 C2
            · rw [C1, M1, p_cq, p_cq, if_pos rfl, if_pos rfl, ← h1]
              exact keep (Or.inr ⟨b, hb, h1, fun q => absurd q C2⟩)
    · have nt : ¬ nI s &&& (nI (toldN σ0) ^^^ -1) = 0 := fun q => c (by
        have := (andn _ _).mp q
        rw [nI_and] at this
        have le : s &&& toldN σ0 ≤ s := Nat.and_le_left
        exact (nI_eq (by omega) (by omega)).mp this)
      rw [if_neg nt]
      rcases C with ⟨C1, C2⟩ | ⟨C1, C2⟩
      · obtain ⟨b, hb, h1, p3, p4⟩ := sub c C2
        have nx : ¬ x = -1 := by rw [h1]; exact nI_m1 (by omega)
        have p1 := pc_le b
        have p2 := pc_le s
        rw [if_neg nx, h1, pc_C b hb, if_pos (nI_le (by omega) (by omega)), ← h1]
        exact keep (Or.inr ⟨b, hb, h1, fun _ => by omega⟩)
      · rw [C1, p_cq, if_pos rfl]
        have K : ∃ v, fX3_fewest_11 f σ x (nI (s + 1)) = some (v, σ) ∧ fX11_fair_137 f τ (nI (toldN σ0)) x (nI (s + 1)) = some (v, τ) := by
          refine keep ?_
          rcases hx with ⟨h1, h2⟩ | ⟨b, hb, h1, h2⟩
          · exact Or.inl ⟨h1, C2⟩
          · exact Or.inr ⟨b, hb, h1, fun q => absurd q C2⟩
        split
        · exact K
        · split
          · exact K
          · exact K
theorem opp_23 : op_23 Rel := by
  intro σ τ a0 h
  have ht := rel_told h 0
  by_cases c0 : 0 ≤ a0 ∧ a0 < 21
  rotate_left
  · refine ⟨-1, σ, _, ?_, ?_, ht⟩
    · unfold fX10_fair; rw [wi_f c0, if_pos rfl]
    · unfold fX11_fair; simp only [p_nmS]; rw [ii_f (by grind), if_pos rfl]
  unfold fX10_fair fX11_fair; simp only [p_nmS]
  rw [wi_t c0, if_neg n10, ii_t (by grind), if_neg n10]
  generalize st_put τ 0 0 0 = ρ at *
  obtain ⟨hp, O, W, hr, hcc⟩ := g_pile ht
  have fu : 256 < FU := by rw [FU_eq]; omega
  have rn := r_near_of (g_places ht) a0
  obtain ⟨σ1, e1, e2, e3⟩ := clear_need a0 256 0 FU σ (by omega) fu (fun j hj => by omega)
  have hO : ∀ k z, k < 64 → z < 4 → O k z ≤ 99 ∧ σ 6 (4 * k + z) = nI (O k z) := fun k z hk hz => ⟨(hr.1 k z hk hz).1, (hcc k z hk hz).1⟩
  obtain ⟨σ2, k1, k2, k3⟩ := need_loop (σ0 := σ) (r := a0) hO 256 0 FU σ1 (by omega) fu e2 (fun j hj => by
    rw [e3 j hj]
    exact ⟨fun q => absurd rfl q, fun ⟨k, z, _, _, q, _⟩ => by omega⟩)
  have t1 := told_loop (σ := σ) (r := a0) 8 0 FU ρ (by omega) (by rw [FU_eq]; omega) rn
  obtain ⟨τ1, m1, m2, m3⟩ := all_near (σ := σ) (r := a0) (T := nI (toldN σ)) 256 0 FU ρ (by omega) fu rn (fun k z hk hz q => by omega)
  have hfC : ∀ s, s < 256 → (fX3_isFair σ2 (nI s) = some 1 ∧ fairP σ a0 O s) ∨ (fX3_isFair σ2 (nI s) = some 0 ∧ ¬ fairP σ a0 O s) := fun s _ => isFairC (s := s) k3 256 0 FU (by omega) fu (fun k z hk hz ho q => by omega)
  have hfM : ∀ s, s < 256 → (fX11_isFair τ1 (nI s) = some 1 ∧ fairP σ a0 O s) ∨ (fX11_isFair τ1 (nI s) = some 0 ∧ ¬ fairP σ a0 O s) := fun s _ => isFairM (s := s) (fun k z hk hz => ⟨(hr.1 k z hk hz).1, by rw [m2 3 (by omega)]; exact (hcc k z hk hz).2.2.2.2.1⟩) m3 256 0 FU (by omega) fu (fun k z hk hz q _ => by omega)
  obtain ⟨v, v1, v2⟩ := few_both hfC hfM 256 0 FU (-1) (by omega) fu (Or.inl ⟨rfl, fun t ht => by omega⟩)
  have EC : fX3_fewest σ a0 = some (v, σ2) := by
    unfold fX3_fewest fX3_findNeeded
    rw [show fX3_findNeeded_2 FU σ a0 0 = some σ2 from e1.trans k1, p_cv]
    exact v1
  have EM : fX11_fair_22 FU ρ a0 0 0 = some (v, τ1) := (t1.trans m1).trans v2
  rw [EC, p_cb, EM]
  refine ⟨v, σ2, τ1, rfl, rfl, rel_scr ht (fun a ha => k2 a (fun q => by rw [q] at ha; exact absurd ha (by decide))) (fun a ha => m2 a (fun q => by rw [q] at ha; exact absurd ha (by decide)))⟩
