/-! water that goes down -/
def heldN (r : Int32) (w : Nat) : Nat := if r ≤ 0 then 0 else if nI w ≤ r then w else r.toNatClampNeg
def capN (n : Nat) : Nat := if n ≤ 9999 then n else 9999
theorem capN_le (n : Nat) : capN n ≤ 9999 ∧ capN n ≤ n := by unfold capN; split <;> omega
theorem heldN_le (r : Int32) {w : Nat} (hw : w < 100000) : heldN r w ≤ w := by
  unfold heldN
  split
  · omega
  · split
    · omega
    · rename_i h1 h2
      obtain ⟨v, hv, e⟩ := i_of (x := r) (n := w) (by omega) (by grind) (by grind)
      rw [e, nI_clamp (by omega)]; omega
theorem held_C (r : Int32) {w : Nat} (hw : w < 100000) : fX10_held r (nI w) = nI (heldN r w) := by
  unfold fX10_held
  rw [p_nm]
  have p0 : 0 ≤ nI w := nI_pos' (by omega)
  unfold heldN
  by_cases c : r ≤ 0
  · rw [if_pos c, if_neg (show ¬ nI w < r by grind), if_neg (show ¬ 0 < r by grind)]; rfl
  · rw [if_neg c]
    by_cases d : nI w ≤ r
    · rw [if_pos d]
      by_cases e : nI w < r
      · rw [if_pos e]
        by_cases z : w = 0
        · subst z; rw [if_neg (by decide)]; rfl
        · rw [if_pos ((nI_0lt (by omega)).mpr (by omega))]
      · rw [if_neg e]
        have : r = nI w := by grind
        rw [this]
        by_cases z : w = 0
        · subst z; rw [if_neg (by decide)]; rfl
        · rw [if_pos ((nI_0lt (by omega)).mpr (by omega))]
    · rw [if_neg d, if_neg (show ¬ nI w < r by grind), if_pos (show 0 < r by grind)]
      obtain ⟨v, hv, e⟩ := i_of (x := r) (n := w) (by omega) (by grind) (by grind)
      rw [e, nI_clamp (by omega)]
theorem cut_M (r : Int32) {w : Nat} (hw : w < 100000) : fX11_cut r (nI w) = nI (heldN r w) := by
  unfold fX11_cut heldN
  have p0 : 0 ≤ nI w := nI_pos' (by omega)
  by_cases c : r ≤ 0
  · rw [if_pos c]
    by_cases d : 0 ≤ r
    · rw [if_pos d, if_pos (show r ≤ nI w by grind)]
      show r = 0
      grind
    · rw [if_neg d]; rfl
  · rw [if_neg c, if_pos (show 0 ≤ r by grind)]
    by_cases d : nI w ≤ r
    · rw [if_pos d]
      by_cases e : r ≤ nI w
      · rw [if_pos e]; grind
      · rw [if_neg e]
    · rw [if_neg d, if_pos (show r ≤ nI w by grind)]
      obtain ⟨v, hv, e⟩ := i_of (x := r) (n := w) (by omega) (by grind) (by grind)
      rw [e, nI_clamp (by omega)]
theorem more_M {a c : Nat} (ha : a < 100000) (hc : c < 100000) : fX11_more (nI a) (nI c) = nI (capN (a + c)) := by
  unfold fX11_more capN
  rw [nI_add, show (9999 : Int32) = nI 9999 from rfl]
  by_cases d : a + c ≤ 9999
  · rw [if_pos (nI_le (b := 9999) d (by omega)), if_pos d]
  · rw [if_neg (fun q => d ((nI_leI (b := 9999) (by omega) (by omega)).mp q)), if_neg d]
theorem cap_C {a c : Nat} (ha : a < 100000) (hc : c < 100000) : (if 9999 < nI a + nI c then (9999 : Int32) else nI a + nI c) = nI (capN (a + c)) := by
  unfold capN
  rw [nI_add, show (9999 : Int32) = nI 9999 from rfl]
  by_cases d : a + c ≤ 9999
  · rw [if_neg (fun q => absurd ((nI_ltI (a := 9999) (by omega) (by omega)).mp q) (by omega)), if_pos d]
  · rw [if_pos (nI_lt (a := 9999) (by omega) (by omega)), if_neg d]
theorem sub_cap {n : Nat} : nI n - nI (capN n) = nI (n - capN n) := pk_sub (capN_le n).2
theorem pour_C {b j w f : Nat} {σ : St} (hj : j < stN b) (hs : stN b < 1000) (hw : w < 100000) (hf : f < 100000) (e : σ (b + 2) j = nI w) : fX8_pour b σ (nI j) (nI f) = some (st_put (st_put σ (b + 2) j (nI (capN (w + f)))) b 7 (σ b 7 + nI (w + f - capN (w + f)))) := by
  unfold fX8_pour
  rw [p_rdN hj (by omega), e, cap_C hw hf, p_wrN hj (by omega), p_rdN hj (by omega), sp_same, up_same, p_nmS, nI_add, sub_cap, sp_ne (a := b) (by omega)]
/-- what may change while the water of a stack goes down -/
def frS (y b : Nat) (σ σ' : St) : Prop := (∀ a, ¬ a = b → ¬ a = b + 2 → ¬ a = 29 → ¬ a = y + 6 → σ' a = σ a) ∧ ∀ j, ¬ j = 7 → σ' b j = σ b j
theorem frS_r (y b : Nat) (σ : St) : frS y b σ σ := ⟨fun _ _ _ _ _ => rfl, fun _ _ => rfl⟩
theorem frS_t {y b : Nat} {σ σ' σ'' : St} (h : frS y b σ σ') (h' : frS y b σ' σ'') : frS y b σ σ'' := ⟨fun a h1 h2 h3 h4 => by rw [h'.1 a h1 h2 h3 h4, h.1 a h1 h2 h3 h4], fun j hj => by rw [h'.2 j hj, h.2 j hj]⟩
theorem frS_2 {y b : Nat} {σ σ' : St} (hb : ¬ b = 29) (hb' : ¬ b = y + 6) (h : same2 29 (y + 6) σ σ') : frS y b σ σ' := ⟨fun a _ _ h3 h4 => h a h3 h4, fun j _ => by rw [h b hb hb']⟩
theorem frS_w {y b j : Nat} {σ : St} {v : Int32} : frS y b σ (st_put σ (b + 2) j v) := ⟨fun a _ h2 _ _ => sp_ne h2, fun j _ => by rw [sp_ne (by omega)]⟩
theorem frS_l {y b : Nat} {σ : St} {v : Int32} : frS y b σ (st_put σ b 7 v) := ⟨fun a h1 _ _ _ => sp_ne h1, fun j hj => by rw [sp_same, up_ne hj]⟩
theorem sumI_snoc (g : Nat → Int32) : ∀ (d j : Nat), sumI g j (d + 1) = sumI g j d + g (j + d) := by
  intro d
  induction d with
  | zero => intro j; show g j + 0 = 0 + g (j + 0); rw [Nat.add_zero]; grind
  | succ d ih =>
    intro j
    show g j + sumI g (j + 1) (d + 1) = g j + sumI g (j + 1) d + g (j + (d + 1))
    rw [ih (j + 1), show j + 1 + d = j + (d + 1) by omega]; grind
theorem sumI_split (g : Nat → Int32) : ∀ (n m j : Nat), sumI g j (m + n) = sumI g j m + sumI g (j + m) n := by
  intro n
  induction n with
  | zero => intro m j; show sumI g j m = sumI g j m + 0; grind
  | succ n ih =>
    intro m j
    rw [← Nat.add_assoc, sumI_snoc, sumI_snoc, ih m j, Nat.add_assoc]; grind
theorem sumI_congr {f g : Nat → Int32} : ∀ (d j : Nat), (∀ i, j ≤ i → i < j + d → f i = g i) → sumI f j d = sumI g j d := by
  intro d
  induction d with
  | zero => intro j _; rfl
  | succ d ih =>
    intro j h
    show f j + sumI f (j + 1) d = g j + sumI g (j + 1) d
    rw [h j (by omega) (by omega), ih (j + 1) (fun i h1 h2 => h i (by omega) (by omega))]
theorem sumI_shift (g : Nat → Int32) : ∀ (d j i : Nat), sumI g (j + i) d = sumI (fun r => g (j + r)) i d := by
  intro d
  induction d with
  | zero => intro j i; rfl
  | succ d ih =>
    intro j i
    show g (j + i) + sumI g (j + i + 1) d = g (j + i) + sumI (fun r => g (j + r)) (i + 1) d
    rw [← ih j (i + 1)]; rfl
theorem sumI_zero : ∀ (d j : Nat), sumI (fun _ => 0) j d = 0 := by
  intro d
  induction d with
  | zero => intro j; rfl
  | succ d ih => intro j; show (0 : Int32) + sumI (fun _ => 0) (j + 1) d = 0; rw [ih]; rfl
theorem sumI_z {g : Nat → Int32} {d j : Nat} (h : ∀ i, j ≤ i → i < j + d → g i = 0) : sumI g j d = 0 := by
  rw [sumI_congr (g := fun _ => 0) d j h]; exact sumI_zero d j
theorem sumI_add (f g : Nat → Int32) : ∀ (d j : Nat), sumI (fun i => f i + g i) j d = sumI f j d + sumI g j d := by
  intro d
  induction d with
  | zero => intro j; rfl
  | succ d ih =>
    intro j
    show f j + g j + sumI (fun i => f i + g i) (j + 1) d = f j + sumI f (j + 1) d + (g j + sumI g (j + 1) d)
    rw [ih (j + 1)]; grind
/-- the water of a cell once it has gone down: L layers, G what goes down from each -/
def w2N (L : Nat) (W G : Nat → Nat) (z : Nat) : Nat := if z + 1 < L then capN (W z - G z + G (z + 1)) else W z - G z
def ovN (W G : Nat → Nat) (z : Nat) : Nat := W z - G z + G (z + 1) - capN (W z - G z + G (z + 1))
/-- what is lost when the water of layer z goes -/
def loI (W G : Nat → Nat) (z : Nat) : Int32 := if z = 0 then nI (G 0) else nI (ovN W G (z - 1))
/-- the water of a column while it goes down, the layers below z being done -/
def wCur (W G : Nat → Nat) (z i : Nat) : Nat := if i + 1 < z then capN (W i - G i + G (i + 1)) else if i + 1 = z then W i - G i else W i
theorem wCur_end {L t : Nat} {O W G : Nat → Nat} (ht : t ≤ L) (hO : ∀ i, i < L → (i < t ↔ 0 < O i)) (hG : ∀ i, i < L → G i ≤ W i ∧ W i ≤ 9999 ∧ (O i = 0 → W i = 0)) : ∀ i, i < L → wCur W G t i = w2N L W G i := by
  intro i hi
  unfold wCur w2N
  obtain ⟨g1, g2, g3⟩ := hG i hi
  by_cases c : i + 1 < t
  · rw [if_pos c, if_pos (by omega)]
  · rw [if_neg c]
    have z0 : t ≤ i → W i = 0 := fun h => g3 (by have := hO i hi; omega)
    have nx : i + 1 < L → G (i + 1) = 0 := by
      intro h
      obtain ⟨q1, q2, q3⟩ := hG (i + 1) h
      have := q3 (by have := hO (i + 1) h; omega)
      omega
    by_cases d : i + 1 < L
    · have hc : capN (W i - G i + 0) = W i - G i := by unfold capN; rw [if_pos (by omega)]; omega
      rw [if_pos d, nx d, hc]
      split
      · rfl
      · have := z0 (by omega); omega
    · rw [if_neg d]
      split
      · rfl
      · have := z0 (by omega); omega
theorem loI_end {L t : Nat} {O W G : Nat → Nat} (ht : t ≤ L) (hO : ∀ i, i < L → (i < t ↔ 0 < O i)) (hG : ∀ i, i < L → G i ≤ W i ∧ W i ≤ 9999 ∧ (O i = 0 → W i = 0)) : sumI (loI W G) 0 t = sumI (loI W G) 0 L := by
  have e : L = t + (L - t) := by omega
  rw [e, sumI_split, sumI_z (g := loI W G) (d := L - t)]
  · grind
  · intro i h1 h2
    obtain ⟨q1, q2, q3⟩ := hG i (by omega)
    have := q3 (by have := hO i (by omega); omega)
    unfold loI
    by_cases c : i = 0
    · subst c; rw [if_pos rfl, show G 0 = 0 by omega]; rfl
    · obtain ⟨p1, p2, p3⟩ := hG (i - 1) (by omega)
      rw [if_neg c]
      unfold ovN capN
      rw [show i - 1 + 1 = i by omega, show G i = 0 by omega, if_pos (by omega)]
      rw [show W (i - 1) - G (i - 1) + 0 - (W (i - 1) - G (i - 1) + 0) = 0 by omega]; rfl
theorem s19_s (b : Nat) (r : St → Int32 → Option St) (f : Nat) (σ : St) (x2 x3 x4 : Int32) : fX8_sinkWater_19 b r (f + 1) σ x2 x3 x4 = fX8_sinkWater_19B b r (fX8_sinkWater_19 b r f) σ x2 x3 x4 := rfl
theorem s2_s (b : Nat) (f : Nat) (σ : St) (x2 : Int32) : fX8_sinkWater_2 b (f + 1) σ x2 = fX8_sinkWater_2B b (fX8_sinkWater_2 b f) σ x2 := rfl
/-- the law that water asks -/
def askDown (b y L so rn ck : Nat) (σ0 : St) (O W G : Nat → Nat → Nat) (C : Nat) : Prop := ∀ σ', frS y b σ0 σ' → timeC σ' so rn ck → ∀ k z, k < C → z < L → 0 < O k z → σ' (b + 2) (k * L + z) = nI (W k z) → ∃ r σ'', fX8_lawOf b σ' 0 (nI (k * L + z)) = some (r, σ'') ∧ heldN r (W k z) = G k z ∧ same2 29 (y + 6) σ' σ'' ∧ timeC σ'' so rn ck
theorem sink_col {b y C L so rn ck t k : Nat} {σ0 : St} {O W G : Nat → Nat → Nat} {rec2 : St → Int32 → Option St} (hy : 44 ≤ y) (hb : b ≤ 19) (hk : k < C) (hL : L < 10) (hC : C < 100) (hst : stN b = C * L) (hs : stN b < 1000) (ht : t ≤ L) (hl : σ0 b 1 = nI L) (hO : ∀ i, i < L → (i < t ↔ 0 < O k i)) (hG : ∀ i, i < L → G k i ≤ W k i ∧ W k i ≤ 9999) (ha : askDown b y L so rn ck σ0 O W G C) : ∀ (d z f : Nat) (σ : St), z + d = t → d < f → frS y b σ0 σ → timeC σ so rn ck → (∀ i, i < L → σ (b + 2) (k * L + i) = nI (wCur (W k) (G k) z i)) → ∃ σ', fX8_sinkWater_19 b rec2 f σ (nI k) (nI t) (nI z) = rec2 σ' (nI (k + 1)) ∧ frS y b σ0 σ' ∧ timeC σ' so rn ck ∧ (∀ i, i < L → σ' (b + 2) (k * L + i) = nI (wCur (W k) (G k) t i)) ∧ (∀ j, ¬ (k * L ≤ j ∧ j < k * L + L) → σ' (b + 2) j = σ (b + 2) j) ∧ σ' b 7 = σ b 7 + sumI (loI (W k) (G k)) z d := by
  have hkL : k * L + L ≤ C * L := by
    have := Nat.mul_le_mul_right L (show k + 1 ≤ C by omega)
    rw [Nat.succ_mul] at this; exact this
  intro d
  induction d with
  | zero =>
    intro z f σ h1 h2 hf hT hw
    obtain ⟨f, rfl⟩ : ∃ g, f = g + 1 := ⟨f - 1, by omega⟩
    have : z = t := by omega
    subst this
    rw [s19_s]; unfold fX8_sinkWater_19B
    rw [if_pos (nI_le (Nat.le_refl _) (by omega)), show nI k + 1 = nI (k + 1) from (nI_succ k).symm]
    refine ⟨σ, rfl, hf, hT, hw, fun _ _ => rfl, ?_⟩
    show σ b 7 = σ b 7 + 0
    grind
  | succ d ih =>
    intro z f σ h1 h2 hf hT hw
    obtain ⟨f, rfl⟩ : ∃ g, f = g + 1 := ⟨f - 1, by omega⟩
    have hz : z < L := by omega
    obtain ⟨g1, g2⟩ := hG z hz
    rw [s19_s]; unfold fX8_sinkWater_19B
    have wz : σ (b + 2) (k * L + z) = nI (W k z) := by
      rw [hw z hz]; unfold wCur; rw [if_neg (by omega), if_neg (by omega)]
    obtain ⟨r, σ1, u1, u2, u3, u4⟩ := ha σ hf hT k z hk hz ((hO z hz).mp (by omega)) wz
    have f1 : frS y b σ0 σ1 := frS_t hf (frS_2 (by omega) (by omega) u3)
    have e1 : σ1 (b + 2) = σ (b + 2) := u3 _ (by omega) (by omega)
    have i1 : nI k * nI L + nI z = nI (k * L + z) := by rw [pk_mul, nI_add]
    have w1 : σ1 (b + 2) (k * L + z) = nI (W k z) := by rw [e1]; exact wz
    rw [if_neg (fun q => absurd ((nI_leI (by omega) (by omega)).mp q) (by omega)), hf.2 1 (by omega), hl, i1, u1, p_cb, p_rdN (by omega) (by omega), p_rdN (by omega) (by omega), p_wrN (by omega) (by omega), w1, held_C r (by omega), u2, pk_sub g1]
    generalize hA : st_put σ1 (b + 2) (k * L + z) (nI (W k z - G k z)) = A
    have fA : frS y b σ0 A := by rw [← hA]; exact frS_t f1 frS_w
    have tA : timeC A so rn ck := by unfold timeC; rw [← hA, sp_ne (by omega)]; exact u4
    have aA : ∀ j, A (b + 2) j = if j = k * L + z then nI (W k z - G k z) else σ (b + 2) j := by
      intro j
      rw [← hA, sp_same]
      by_cases q : j = k * L + z
      · rw [q, up_same, if_pos rfl]
      · rw [up_ne q, if_neg q, e1]
    have lA : A b 7 = σ b 7 := by rw [← hA, sp_ne (by omega), u3 b (by omega) (by omega)]
    rw [show nI z + 1 = nI (z + 1) from (nI_succ z).symm]
    by_cases z0 : z = 0
    · subst z0
      rw [if_pos (show nI 0 = 0 from rfl), p_nmS]
      obtain ⟨σ', v1, v2, v3, v4, v5, v6⟩ := ih 1 f (st_put A b 7 (A b 7 + nI (G k 0))) (by omega) (by omega) (frS_t fA frS_l) (by unfold timeC; rw [sp_ne (by omega)]; exact tA) (by
        intro i hi
        rw [sp_ne (by omega), aA, hw i hi]
        unfold wCur
        by_cases q : i = 0
        · subst q; rw [if_pos rfl, if_neg (by omega), if_pos (by omega)]
        · rw [if_neg (by omega), if_neg (by omega), if_neg (by omega), if_neg (by omega), if_neg (by omega)])
      refine ⟨σ', v1, v2, v3, v4, fun j hj => ?_, ?_⟩
      · rw [v5 j hj, sp_ne (by omega), aA, if_neg (by omega)]
      · rw [v6, sp_same, up_same, lA]
        show _ = σ b 7 + (loI (W k) (G k) 0 + sumI (loI (W k) (G k)) (0 + 1) d)
        unfold loI
        rw [if_pos rfl]
        grind
    · rw [if_neg (fun q => z0 ((nI_e0 (by omega)).mp q))]
      have zp : nI (k * L + z) - 1 = nI (k * L + (z - 1)) := by
        have := nI_pred (k * L + (z - 1))
        rwa [show k * L + (z - 1) + 1 = k * L + z by omega] at this
      obtain ⟨q1, q2⟩ := hG (z - 1) (by omega)
      have wp : A (b + 2) (k * L + (z - 1)) = nI (W k (z - 1) - G k (z - 1)) := by
        rw [aA, if_neg (by omega), hw (z - 1) (by omega)]
        unfold wCur; rw [if_neg (by omega), if_pos (by omega)]
      rw [zp, pour_C (w := W k (z - 1) - G k (z - 1)) (f := G k z) (by omega) hs (by omega) (by omega) wp, p_cv]
      obtain ⟨σ', v1, v2, v3, v4, v5, v6⟩ := ih (z + 1) f (st_put (st_put A (b + 2) (k * L + (z - 1)) (nI (capN (W k (z - 1) - G k (z - 1) + G k z)))) b 7 (A b 7 + nI (W k (z - 1) - G k (z - 1) + G k z - capN (W k (z - 1) - G k (z - 1) + G k z)))) (by omega) (by omega) (frS_t (frS_t fA frS_w) frS_l) (by unfold timeC; rw [sp_ne (by omega), sp_ne (by omega)]; exact tA) (by
        intro i hi
        rw [sp_ne (by omega), sp_same]
        by_cases q : i = z - 1
        · subst q
          rw [up_same]; unfold wCur; rw [if_pos (by omega), show z - 1 + 1 = z by omega]
        · rw [up_ne (by omega), aA]
          by_cases q' : i = z
          · subst q'; rw [if_pos rfl]; unfold wCur; rw [if_neg (by omega), if_pos rfl]
          · rw [if_neg (by omega), hw i hi]
            unfold wCur
            by_cases c : i + 1 < z
            · rw [if_pos c, if_pos (by omega)]
            · rw [if_neg c, if_neg (by omega), if_neg (by omega), if_neg (by omega)])
      refine ⟨σ', v1, v2, v3, v4, fun j hj => ?_, ?_⟩
      · rw [v5 j hj, sp_ne (by omega), sp_same, up_ne (by omega), aA, if_neg (by omega)]
      · rw [v6, sp_same, up_same, lA]
        show _ = σ b 7 + (loI (W k) (G k) z + sumI (loI (W k) (G k)) (z + 1) d)
        have : loI (W k) (G k) z = nI (W k (z - 1) - G k (z - 1) + G k z - capN (W k (z - 1) - G k (z - 1) + G k z)) := by
          unfold loI ovN; rw [if_neg z0, show z - 1 + 1 = z by omega]
        rw [this]
        grind
/-- all columns -/
theorem sink_all {b y C L so rn ck : Nat} {σ0 : St} {O W G : Nat → Nat → Nat} (hy : 44 ≤ y) (hb : b ≤ 19) (hL : L < 10) (hC : C < 100) (hst : stN b = C * L) (hs : stN b < 1000) (hc : σ0 b 0 = nI C) (hl : σ0 b 1 = nI L) (hO : ∀ k i, k < C → i < L → O k i ≤ 99 ∧ σ0 (b + 1) (k * L + i) = nI (O k i)) (hO2 : ∀ k i, k < C → i + 1 < L → O k i = 0 → O k (i + 1) = 0) (hG : ∀ k i, k < C → i < L → G k i ≤ W k i ∧ W k i ≤ 9999 ∧ (O k i = 0 → W k i = 0)) (ha : askDown b y L so rn ck σ0 O W G C) : ∀ (d k f : Nat) (σ : St), k + d = C → d < f → frS y b σ0 σ → timeC σ so rn ck → (∀ a i, a < C → i < L → σ (b + 2) (a * L + i) = nI (if a < k then w2N L (W a) (G a) i else W a i)) → ∃ σ', fX8_sinkWater_2 b f σ (nI k) = some σ' ∧ frS y b σ0 σ' ∧ timeC σ' so rn ck ∧ (∀ a i, a < C → i < L → σ' (b + 2) (a * L + i) = nI (w2N L (W a) (G a) i)) ∧ σ' b 7 = σ b 7 + sumI (fun c => loI (W (c / L)) (G (c / L)) (c % L)) (k * L) (d * L) := by
  intro d
  induction d with
  | zero =>
    intro k f σ h1 h2 hf hT hw
    obtain ⟨f, rfl⟩ : ∃ g, f = g + 1 := ⟨f - 1, by omega⟩
    have : k = C := by omega
    subst this
    rw [s2_s]; unfold fX8_sinkWater_2B
    rw [hf.2 0 (by omega), hc, if_pos (nI_le (Nat.le_refl _) (by omega))]
    refine ⟨σ, rfl, hf, hT, fun a i ha hi => by rw [hw a i ha hi, if_pos ha], ?_⟩
    rw [Nat.zero_mul]
    show σ b 7 = σ b 7 + 0
    grind
  | succ d ih =>
    intro k f σ h1 h2 hf hT hw
    obtain ⟨f, rfl⟩ : ∃ g, f = g + 1 := ⟨f - 1, by omega⟩
    have hk : k < C := by omega
    have hkL : k * L + L ≤ C * L := by
      have := Nat.mul_le_mul_right L (show k + 1 ≤ C by omega)
      rw [Nat.succ_mul] at this; exact this
    have he := height_spec (b := b) (k := k) (c := C) (l := L) (σ := σ) (O := O k) (by rw [hf.2 0 (by omega)]; exact hc) hk (by omega) (by rw [hf.2 1 (by omega)]; exact hl) (by omega) hs (by omega) (fun z hz => ⟨by have := (hO k z hk hz).1; omega, by rw [hf.1 (b + 1) (by omega) (by omega) (by omega) (by omega)]; exact (hO k z hk hz).2⟩)
    have tl := topN_le (O k) L
    have ti := topN_iff (O := O k) (n := L) (fun z hz => hO2 k z hk hz)
    rw [s2_s]; unfold fX8_sinkWater_2B
    rw [hf.2 0 (by omega), hc, if_neg (fun q => absurd ((nI_leI (by omega) (by omega)).mp q) (by omega)), he, p_cq]
    obtain ⟨σ1, u1, u2, u3, u4, u5, u6⟩ := sink_col (rec2 := fX8_sinkWater_2 b f) hy hb hk hL hC hst hs tl hl ti (fun i hi => ⟨(hG k i hk hi).1, (hG k i hk hi).2.1⟩) ha (topN (O k) L) 0 FU σ (by omega) (by rw [FU_eq]; omega) hf hT (by
      intro i hi
      rw [hw k i hk hi, if_neg (by omega)]
      unfold wCur; rw [if_neg (by omega), if_neg (by omega)])
    have we := wCur_end (L := L) (t := topN (O k) L) (O := O k) (W := W k) (G := G k) tl ti (fun i hi => hG k i hk hi)
    have le := loI_end (L := L) (t := topN (O k) L) (O := O k) (W := W k) (G := G k) tl ti (fun i hi => hG k i hk hi)
    obtain ⟨σ2, v1, v2, v3, v4, v5⟩ := ih (k + 1) f σ1 (by omega) (by omega) u2 u3 (by
      intro a i ha' hi
      by_cases q : a = k
      · subst q; rw [u4 i hi, we i hi, if_pos (by omega)]
      · have ne : ¬ (k * L ≤ a * L + i ∧ a * L + i < k * L + L) := by
          rintro ⟨q1, q2⟩
          rcases Nat.lt_or_gt_of_ne q with q3 | q3
          · have := Nat.mul_le_mul_right L (show a + 1 ≤ k by omega)
            rw [Nat.succ_mul] at this; omega
          · have := Nat.mul_le_mul_right L (show k + 1 ≤ a by omega)
            rw [Nat.succ_mul] at this; omega
        rw [u5 _ ne, hw a i ha' hi]
        by_cases q' : a < k
        · rw [if_pos q', if_pos (by omega)]
        · rw [if_neg q', if_neg (by omega)])
    refine ⟨σ2, ?_, v2, v3, v4, ?_⟩
    · rw [show (0 : Int32) = nI 0 from rfl, u1, v1]
    · rw [v5, u6, le, show (d + 1) * L = L + d * L by rw [Nat.succ_mul]; omega, sumI_split, show k * L + L = (k + 1) * L by rw [Nat.succ_mul]]
      have : sumI (fun c => loI (W (c / L)) (G (c / L)) (c % L)) (k * L) L = sumI (loI (W k) (G k)) 0 L := by
        rw [← Nat.add_zero (k * L), sumI_shift]
        refine sumI_congr _ _ (fun i _ hi => ?_)
        show loI (W ((k * L + i) / L)) (G ((k * L + i) / L)) ((k * L + i) % L) = _
        have q1 : (k * L + i) / L = k := by rw [Nat.mul_comm, Nat.mul_add_div (by omega), Nat.div_eq_of_lt (by omega), Nat.add_zero]
        have q2 : (k * L + i) % L = i := by rw [Nat.mul_comm, Nat.mul_add_mod, Nat.mod_eq_of_lt (by omega)]
        rw [q1, q2]
      rw [this]
      grind
