/-! tokens -/
theorem fk_spec {T : Nat → Nat} {s e : Nat} : ∀ (ws : List (List Nat)) (i0 : Nat), (∃ i, i < ws.length ∧ fkW T s e ws i0 = 256 + i0 + i ∧ hitW T s e (ws.getD i []) = true) ∨ (fkW T s e ws i0 = 1 ∧ ∀ i, i < ws.length → hitW T s e (ws.getD i []) = false) := by
  intro ws
  induction ws with
  | nil => intro i0; exact Or.inr ⟨rfl, fun i hi => by simp at hi⟩
  | cons w r ih =>
    intro i0
    by_cases h : hitW T s e w = true
    · exact Or.inl ⟨0, by simp, by show (if hitW T s e w then 256 + i0 else _) = _; rw [if_pos h, Nat.add_zero], by simpa using h⟩
    · have e1 : fkW T s e (w :: r) i0 = fkW T s e r (i0 + 1) := by show (if hitW T s e w then 256 + i0 else _) = _; rw [if_neg h]
      rcases ih (i0 + 1) with ⟨i, h1, h2, h3⟩ | ⟨h1, h2⟩
      · exact Or.inl ⟨i + 1, by simp; omega, by rw [e1, h2]; omega, by simpa using h3⟩
      · refine Or.inr ⟨by rw [e1, h1], fun i hi => ?_⟩
        cases i with
        | zero => simpa using h
        | succ i => have := h2 i (by simp at hi; omega); simpa using this
theorem fm_spec {T : Nat → Nat} {s e : Nat} : ∀ (ws : List (List Nat)) (i0 : Nat), (∃ i, i < ws.length ∧ fmW T s e ws i0 = nI (i0 + i) ∧ hitW T s e (ws.getD i []) = true) ∨ (fmW T s e ws i0 = -1 ∧ ∀ i, i < ws.length → hitW T s e (ws.getD i []) = false) := by
  intro ws
  induction ws with
  | nil => intro i0; exact Or.inr ⟨rfl, fun i hi => by simp at hi⟩
  | cons w r ih =>
    intro i0
    by_cases h : hitW T s e w = true
    · exact Or.inl ⟨0, by simp, by show (if hitW T s e w then nI i0 else _) = _; rw [if_pos h, Nat.add_zero], by simpa using h⟩
    · have e1 : fmW T s e (w :: r) i0 = fmW T s e r (i0 + 1) := by show (if hitW T s e w then nI i0 else _) = _; rw [if_neg h]
      rcases ih (i0 + 1) with ⟨i, h1, h2, h3⟩ | ⟨h1, h2⟩
      · exact Or.inl ⟨i + 1, by simp; omega, by rw [e1, h2]; congr 1; omega, by simpa using h3⟩
      · refine Or.inr ⟨by rw [e1, h1], fun i hi => ?_⟩
        cases i with
        | zero => simpa using h
        | succ i => have := h2 i (by simp at hi; omega); simpa using this
def mwN (laws : Bool) (i : Nat) : Nat := if laws then (if i < 4 then 7 + i else if i < 8 then i - 4 else 3 + i) else (if i < 4 then 7 + i else if i < 7 then i else if i < 10 then 13 + i else if i = 10 then 16 else 12 + i)
def wlN (laws : Bool) : Nat := if laws then 17 else 15
def badW (laws : Bool) (j : Nat) : Bool := if laws then (j == 4 || j == 5 || j == 6 || 20 ≤ j) else (j ≤ 3 || (11 ≤ j && j ≤ 15) || (17 ≤ j && j ≤ 19))
theorem wl_len (laws : Bool) : (WLx laws).length = wlN laws := by cases laws <;> rfl
theorem mw_t : ∀ i, i < 17 → WM.getD (mwN true i) [] = WLl.getD i [] ∧ mwN true i < 27 := by decide +kernel
theorem mw_f : ∀ i, i < 15 → WM.getD (mwN false i) [] = WLc.getD i [] ∧ mwN false i < 27 := by decide +kernel
theorem mw_e (laws : Bool) {i : Nat} (hi : i < wlN laws) : WM.getD (mwN laws i) [] = (WLx laws).getD i [] ∧ mwN laws i < 27 := by
  cases laws with
  | true => exact mw_t i hi
  | false => exact mw_f i hi
theorem wm_inj : ∀ i, i < 27 → ∀ j, j < 27 → WM.getD i [] = WM.getD j [] → i = j := by decide +kernel
theorem bad_t : ∀ j, j < 27 → badW true j = true ∨ ∃ i, i < 17 ∧ mwN true i = j := by decide +kernel
theorem bad_f : ∀ j, j < 27 → badW false j = true ∨ ∃ i, i < 15 ∧ mwN false i = j := by decide +kernel
theorem bad_e (laws : Bool) {j : Nat} (hj : j < 27) : badW laws j = true ∨ ∃ i, i < wlN laws ∧ mwN laws i = j := by
  cases laws with
  | true => exact bad_t j hj
  | false => exact bad_f j hj
theorem word_tok (laws : Bool) (T : Nat → Nat) (s e : Nat) : (∃ i, i < wlN laws ∧ fkW T s e (WLx laws) 0 = 256 + i ∧ fmW T s e WM 0 = nI (mwN laws i)) ∨ (fkW T s e (WLx laws) 0 = 1 ∧ (fmW T s e WM 0 = -1 ∨ ∃ j, j < 27 ∧ badW laws j = true ∧ fmW T s e WM 0 = nI j)) := by
  rcases fk_spec (T := T) (s := s) (e := e) (WLx laws) 0 with ⟨i, h1, h2, h3⟩ | ⟨h1, h2⟩
  · rw [wl_len] at h1
    obtain ⟨m1, m2⟩ := mw_e laws h1
    refine Or.inl ⟨i, h1, by omega, ?_⟩
    rcases fm_spec (T := T) (s := s) (e := e) WM 0 with ⟨j, k1, k2, k3⟩ | ⟨k1, k2⟩
    · have k1' : j < 27 := k1
      rw [← m1] at h3
      have := wm_inj j k1' _ m2 (hit_inj k3 h3)
      rw [k2, this, Nat.zero_add]
    · have := k2 (mwN laws i) m2
      rw [m1, h3] at this
      exact absurd this (by decide)
  · refine Or.inr ⟨h1, ?_⟩
    rcases fm_spec (T := T) (s := s) (e := e) WM 0 with ⟨j, k1, k2, k3⟩ | ⟨k1, k2⟩
    · have k1' : j < 27 := k1
      refine Or.inr ⟨j, k1', ?_, by rw [k2, Nat.zero_add]⟩
      rcases bad_e laws k1' with b | ⟨i, i1, i2⟩
      · exact b
      · obtain ⟨m1, m2⟩ := mw_e laws i1
        have := h2 i (by rw [wl_len]; exact i1)
        rw [← m1, i2, k3] at this
        exact absurd this (by decide)
    · exact Or.inl k1
def runE (q : Nat → Bool) : Nat → Nat → Nat
  | p, 0 => p
  | p, d + 1 => if q p then runE q (p + 1) d else p
theorem runE_s (q : Nat → Bool) (p d : Nat) : runE q p (d + 1) = if q p then runE q (p + 1) d else p := rfl
theorem runE_b (q : Nat → Bool) : ∀ (d p : Nat), p ≤ runE q p d ∧ runE q p d ≤ p + d ∧ ∀ j, p ≤ j → j < runE q p d → q j = true := by
  intro d
  induction d with
  | zero => intro p; exact ⟨Nat.le_refl _, Nat.le_refl _, fun j h1 h2 => by have : runE q p 0 = p := rfl; omega⟩
  | succ d ih =>
    intro p
    rw [runE_s]
    by_cases c : q p = true
    · rw [if_pos c]
      obtain ⟨h1, h2, h3⟩ := ih (p + 1)
      refine ⟨by omega, by omega, fun j j1 j2 => ?_⟩
      by_cases z : j = p
      · rw [z]; exact c
      · exact h3 j (by omega) j2
    · rw [if_neg c]
      exact ⟨Nat.le_refl _, by omega, fun j h1 h2 => by omega⟩
theorem runE_at (q : Nat → Bool) {len p : Nat} (hp : p < len) : runE q p (len - p) = if q p then runE q (p + 1) (len - (p + 1)) else p := by
  rw [show len - p = (len - (p + 1)) + 1 by omega, runE_s]
def numW (T : Nat → Nat) : Nat → Nat → Nat → Nat
  | 0 => fun acc _ => acc
  | d + 1 => fun acc p => numW T d (10 * acc + (T p - 48)) (p + 1)
def numV (T : Nat → Nat) (acc p d : Nat) : Nat := numW T d acc p
theorem numV_s (T : Nat → Nat) (acc p d : Nat) : numV T acc p (d + 1) = numV T (10 * acc + (T p - 48)) (p + 1) d := by simp only [numV, numW]
theorem numV_lt {T : Nat → Nat} : ∀ (d acc p : Nat), (∀ j, p ≤ j → j < p + d → digB (T j) = true) → numV T acc p d < (acc + 1) * 10 ^ d := by
  intro d
  induction d with
  | zero => intro acc p _; show acc < (acc + 1) * 1; omega
  | succ d ih =>
    intro acc p h
    rw [numV_s]
    have h0 := h p (by omega) (by omega)
    unfold digB at h0
    simp only [Bool.and_eq_true, decide_eq_true_eq] at h0
    have := ih (10 * acc + (T p - 48)) (p + 1) (fun j h1 h2 => h j (by omega) (by omega))
    have e : (10 * acc + (T p - 48) + 1) * 10 ^ d ≤ (acc + 1) * 10 ^ (d + 1) := by
      rw [Nat.pow_succ, Nat.mul_comm (10 ^ d) 10, ← Nat.mul_assoc]
      exact Nat.mul_le_mul_right _ (by omega)
    omega
def skp (T : Nat → Nat) (len p : Nat) : Nat := runE (fun j => blaB (T j)) p (len - p)
def tkE (T : Nat → Nat) (len s : Nat) : Nat := if lettB (T s) then runE (fun j => lettB (T j)) s (len - s) else if digB (T s) then runE (fun j => digB (T j)) s (len - s) else s + 1
def tkK (laws : Bool) (T : Nat → Nat) (s e : Nat) : Nat := if lettB (T s) then fkW T s e (WLx laws) 0 else if digB (T s) then (if e - s ≤ 4 then 1000 + numV T 0 s (e - s) else 1) else if sigB (T s) then T s else 1
def nxT (laws : Bool) (T : Nat → Nat) (len p : Nat) : Nat × Nat × Nat := if skp T len p < len then (tkK laws T (skp T len p) (tkE T len (skp T len p)), skp T len p, tkE T len (skp T len p)) else (0, len, len)
def tokN (laws : Bool) (T : Nat → Nat) (len : Nat) : Nat → Nat × Nat × Nat
  | 0 => nxT laws T len 0
  | i + 1 => nxT laws T len (tokN laws T len i).2.2
theorem tkE_b {T : Nat → Nat} {len s : Nat} (h : s < len) : s < tkE T len s ∧ tkE T len s ≤ len := by
  unfold tkE
  by_cases c : lettB (T s) = true
  · rw [if_pos c, runE_at _ h, if_pos c]
    have := runE_b (fun j => lettB (T j)) (len - (s + 1)) (s + 1)
    omega
  · rw [if_neg c]
    by_cases d : digB (T s) = true
    · rw [if_pos d, runE_at _ h, if_pos d]
      have := runE_b (fun j => digB (T j)) (len - (s + 1)) (s + 1)
      omega
    · rw [if_neg d]; omega
theorem skp_b {T : Nat → Nat} {len p : Nat} (h : p ≤ len) : p ≤ skp T len p ∧ skp T len p ≤ len := by
  unfold skp
  have := runE_b (fun j => blaB (T j)) (len - p) p
  omega
theorem skp_no {T : Nat → Nat} {len p : Nat} (h : p < len) (hb : blaB (T p) = false) : skp T len p = p := by
  unfold skp; rw [runE_at _ h, hb]; rfl
theorem skp_yes {T : Nat → Nat} {len p : Nat} (h : p < len) (hb : blaB (T p) = true) : skp T len p = skp T len (p + 1) := by
  unfold skp; rw [runE_at _ h, hb, if_pos rfl]
theorem skp_len (T : Nat → Nat) (len : Nat) : skp T len len = len := by unfold skp; rw [Nat.sub_self]; rfl
theorem num_le {T : Nat → Nat} {len s : Nat} (h : s < len) (hl : lettB (T s) = false) (hd : digB (T s) = true) (h4 : tkE T len s - s ≤ 4) : numV T 0 s (tkE T len s - s) ≤ 9999 := by
  have hb := tkE_b (T := T) h
  have he : tkE T len s = runE (fun j => digB (T j)) s (len - s) := by unfold tkE; rw [hl, hd]; rfl
  have := numV_lt (T := T) (tkE T len s - s) 0 s (fun j h1 h2 => (runE_b (fun j => digB (T j)) (len - s) s).2.2 j h1 (by rw [← he]; omega))
  have p4 : 10 ^ (tkE T len s - s) ≤ 10 ^ 4 := Nat.pow_le_pow_right (by omega) h4
  omega
theorem tkK_b {laws : Bool} {T : Nat → Nat} {len s : Nat} (h : s < len) (hT : T s < 256) : 0 < tkK laws T s (tkE T len s) ∧ tkK laws T s (tkE T len s) < 11000 := by
  unfold tkK
  by_cases c : lettB (T s) = true
  · rw [if_pos c]
    have wl : wlN laws ≤ 17 := by cases laws <;> decide
    rcases word_tok laws T s (tkE T len s) with ⟨i, h1, h2, _⟩ | ⟨h1, _⟩
    · omega
    · omega
  · rw [if_neg c]
    by_cases d : digB (T s) = true
    · rw [if_pos d]
      by_cases q : tkE T len s - s ≤ 4
      · rw [if_pos q]
        have := num_le h (by simpa using c) d q
        omega
      · rw [if_neg q]; omega
    · rw [if_neg d]
      by_cases q : sigB (T s) = true
      · rw [if_pos q]
        unfold sigB at q
        simp only [Bool.or_eq_true, beq_iff_eq] at q
        omega
      · rw [if_neg q]; omega
/-! the class scans -/
theorem re_s (σ : St) (f : Nat) (a b : Int32) : fX4_runEnd_2 σ (f + 1) a b = fX4_runEnd_2B σ (fX4_runEnd_2 σ f) a b := rfl
theorem nk_s (σ : St) (f : Nat) (a b c : Int32) : fX4_numberKind_14 σ (f + 1) a b c = fX4_numberKind_14B σ (fX4_numberKind_14 σ f) a b c := rfl
theorem sc_s (f : Nat) (σ : St) (a b : Int32) : fX4_scan_4 (f + 1) σ a b = fX4_scan_4B (fX4_scan_4 f) σ a b := rfl
theorem runEnd_C {σ : St} {T : Nat → Nat} {len : Nat} (hl : len ≤ 600) (e : σ 24 1 = nI len) (hT : ∀ j, j < len → σ 25 j = nI (T j) ∧ T j < 256) (L : Bool) : ∀ (d p f : Nat), p + d = len → d < f → fX4_runEnd_2 σ f (bI L) (nI p) = some (nI (runE (fun j => if L then lettB (T j) else digB (T j)) p (len - p))) := by
  intro d
  induction d with
  | zero =>
    intro p f h1 h2
    obtain ⟨f, rfl⟩ : ∃ g, f = g + 1 := ⟨f - 1, by omega⟩
    have : p = len := by omega
    subst this
    rw [re_s]; unfold fX4_runEnd_2B
    rw [e, if_pos (nI_le (Nat.le_refl _) (by omega)), Nat.sub_self]; rfl
  | succ d ih =>
    intro p f h1 h2
    obtain ⟨f, rfl⟩ : ∃ g, f = g + 1 := ⟨f - 1, by omega⟩
    obtain ⟨t1, t2⟩ := hT p (by omega)
    rw [re_s]; unfold fX4_runEnd_2B
    rw [e, if_neg (fun q => absurd ((nI_leI (by omega) (by omega)).mp q) (by omega)), show nI p + 1 = nI (p + 1) from (nI_succ _).symm, ih (p + 1) f (by omega) (by omega), runE_at _ (show p < len by omega)]
    cases L with
    | false =>
      rw [if_pos (show bI false = 0 from rfl), p_rdN (by omega) (by omega), t1, dig_C _ t2]
      cases digB (T p) <;> rfl
    | true =>
      rw [if_neg (show ¬ bI true = 0 by decide), p_rdN (by omega) (by omega), t1, lett_C _ t2]
      cases lettB (T p) <;> rfl
theorem numK_C {σ : St} {T : Nat → Nat} {e : Nat} (he : e ≤ 600) (hT : ∀ j, j < e → σ 25 j = nI (T j) ∧ T j < 256) : ∀ (d p f acc : Nat), p + d = e → d < f → (∀ j, p ≤ j → j < e → digB (T j) = true) → fX4_numberKind_14 σ f (nI e) (nI acc) (nI p) = some (nI (1000 + numV T acc p d)) := by
  intro d
  induction d with
  | zero =>
    intro p f acc h1 h2 _
    obtain ⟨f, rfl⟩ : ∃ g, f = g + 1 := ⟨f - 1, by omega⟩
    have : p = e := by omega
    subst this
    rw [nk_s]; unfold fX4_numberKind_14B
    rw [if_pos (nI_le (Nat.le_refl _) (by omega)), show (1000 : Int32) = nI 1000 from rfl, nI_add]; rfl
  | succ d ih =>
    intro p f acc h1 h2 hd
    obtain ⟨f, rfl⟩ : ∃ g, f = g + 1 := ⟨f - 1, by omega⟩
    obtain ⟨t1, t2⟩ := hT p (by omega)
    have h0 := hd p (by omega) (by omega)
    unfold digB at h0
    simp only [Bool.and_eq_true, decide_eq_true_eq] at h0
    rw [nk_s]; unfold fX4_numberKind_14B
    rw [if_neg (fun q => absurd ((nI_leI (by omega) (by omega)).mp q) (by omega)), p_rdN (by omega) (by omega), t1, show nI p + 1 = nI (p + 1) from (nI_succ _).symm, show (10 : Int32) = nI 10 from rfl, pk_mul, nI_add, show (48 : Int32) = nI 48 from rfl, pk_sub (by omega), show 10 * acc + T p - 48 = 10 * acc + (T p - 48) by omega, ih (p + 1) f _ (by omega) (by omega) (fun j q1 q2 => hd j (by omega) q2), numV_s]
theorem scan_C {σ0 : St} {laws : Bool} {T : Nat → Nat} {len : Nat} (hl : len ≤ 600) (e1 : σ0 24 1 = nI len) (e6 : σ0 24 6 = bI laws) (hT : ∀ j, j < len → σ0 25 j = nI (T j) ∧ T j < 256) : ∀ (d p i f : Nat) (σ : St), p + d = len → d < f → i ≤ p → nxT laws T len p = tokN laws T len i → (∀ a, ¬ a = 26 → ¬ a = 27 → σ a = σ0 a) → (∀ j, j < i → σ 26 j = nI (tokN laws T len j).1 ∧ σ 27 j = nI (tokN laws T len j).2.1 ∧ 0 < (tokN laws T len j).1) → ∃ n σ', fX4_scan_4 f σ (nI i) (nI p) = some σ' ∧ (∀ a, ¬ a = 26 → ¬ a = 27 → σ' a = σ0 a) ∧ n ≤ len ∧ (∀ j, j ≤ n → σ' 26 j = nI (tokN laws T len j).1 ∧ σ' 27 j = nI (tokN laws T len j).2.1) ∧ (∀ j, j < n → 0 < (tokN laws T len j).1) ∧ tokN laws T len n = (0, len, len) := by
  intro d
  induction d using Nat.strongRecOn with
  | ind d ih =>
    intro p i f σ h1 h2 hi hn hf hq
    obtain ⟨f, rfl⟩ : ∃ g, f = g + 1 := ⟨f - 1, by omega⟩
    have a1 : σ 24 1 = nI len := by rw [hf 24 (by omega) (by omega)]; exact e1
    have a6 : σ 24 6 = bI laws := by rw [hf 24 (by omega) (by omega)]; exact e6
    have aT : ∀ j, j < len → σ 25 j = nI (T j) ∧ T j < 256 := fun j hj => by rw [hf 25 (by omega) (by omega)]; exact hT j hj
    rw [sc_s]; unfold fX4_scan_4B
    rw [a1]
    by_cases c : p = len
    · subst c
      rw [if_pos (nI_le (Nat.le_refl _) (by omega))]
      unfold fX4_scan_144
      rw [p_wrN (by omega) (by omega), p_wrN (by omega) (by omega), sp_ne (a := 24) (by omega), a1]
      have en : tokN laws T p i = (0, p, p) := by rw [← hn]; unfold nxT; rw [skp_len, if_neg (by omega)]
      refine ⟨i, _, rfl, fun a q1 q2 => by rw [sp_ne q2, sp_ne q1, hf a q1 q2], hi, fun j hj => ?_, fun j hj => (hq j hj).2.2, en⟩
      by_cases z : j = i
      · subst z
        rw [en]
        refine ⟨?_, ?_⟩
        · rw [sp_ne (by omega), sp_same, up_same]; rfl
        · rw [sp_same, up_same]
      · obtain ⟨q1, q2, q3⟩ := hq j (by omega)
        refine ⟨?_, ?_⟩
        · rw [sp_ne (by omega), sp_same, up_ne z]; exact q1
        · rw [sp_same, up_ne z, sp_ne (by omega)]; exact q2
    obtain ⟨t1, t2⟩ := aT p (by omega)
    rw [if_neg (fun q => absurd ((nI_leI (by omega) (by omega)).mp q) (by omega)), if_neg (show ¬ (600 : Int32) ≤ nI i from fun q => absurd ((nI_leI (a := 600) (by omega) (by omega)).mp q) (by omega)), p_rdN (by omega) (by omega), t1, show nI p + 1 = nI (p + 1) from (nI_succ _).symm]
    have blank : blaB (T p) = true → ∃ n σ', fX4_scan_4 f σ (nI i) (nI (p + 1)) = some σ' ∧ (∀ a, ¬ a = 26 → ¬ a = 27 → σ' a = σ0 a) ∧ n ≤ len ∧ (∀ j, j ≤ n → σ' 26 j = nI (tokN laws T len j).1 ∧ σ' 27 j = nI (tokN laws T len j).2.1) ∧ (∀ j, j < n → 0 < (tokN laws T len j).1) ∧ tokN laws T len n = (0, len, len) := by
      intro hb
      refine ih (d - 1) (by omega) (p + 1) i f σ (by omega) (by omega) (by omega) ?_ hf hq
      rw [← hn]; unfold nxT; rw [skp_yes (show p < len by omega) hb]
    by_cases b1 : T p = 32
    · rw [if_pos (show nI (T p) = 32 by rw [b1]; rfl)]
      exact blank (by rw [b1]; rfl)
    rw [if_neg (show ¬ nI (T p) = 32 from fun q => b1 ((nI_eq (b := 32) (by omega) (by omega)).mp q))]
    by_cases b2 : T p = 10
    · rw [if_pos (show nI (T p) = 10 by rw [b2]; rfl)]
      exact blank (by rw [b2]; rfl)
    rw [if_neg (show ¬ nI (T p) = 10 from fun q => b2 ((nI_eq (b := 10) (by omega) (by omega)).mp q))]
    have nb : blaB (T p) = false := by unfold blaB; simp [b1, b2]
    have sp : skp T len p = p := skp_no (by omega) nb
    have ti : tokN laws T len i = (tkK laws T p (tkE T len p), p, tkE T len p) := by rw [← hn]; unfold nxT; rw [sp, if_pos (by omega)]
    obtain ⟨eb1, eb2⟩ := tkE_b (T := T) (show p < len by omega)
    obtain ⟨kb1, kb2⟩ := tkK_b (laws := laws) (show p < len by omega) t2
    have tok : ∀ σ1 : St, (∀ a, ¬ a = 26 → σ1 a = σ a) → (∀ j, σ1 26 j = if j = i then nI (tkK laws T p (tkE T len p)) else σ 26 j) → ∃ n σ', fX4_scan_130 (fX4_scan_4 f) σ1 (nI i) (nI (tkE T len p)) (nI p) = some σ' ∧ (∀ a, ¬ a = 26 → ¬ a = 27 → σ' a = σ0 a) ∧ n ≤ len ∧ (∀ j, j ≤ n → σ' 26 j = nI (tokN laws T len j).1 ∧ σ' 27 j = nI (tokN laws T len j).2.1) ∧ (∀ j, j < n → 0 < (tokN laws T len j).1) ∧ tokN laws T len n = (0, len, len) := by
      intro σ1 g1 g2
      unfold fX4_scan_130
      rw [p_wrN (by omega) (by omega), show nI i + 1 = nI (i + 1) from (nI_succ _).symm]
      refine ih (len - tkE T len p) (by omega) (tkE T len p) (i + 1) f _ (by omega) (by omega) (by omega) ?_ (fun a q1 q2 => by rw [sp_ne q2, g1 a q1, hf a q1 q2]) ?_
      · show _ = nxT laws T len (tokN laws T len i).2.2
        rw [ti]
      · intro j hj
        by_cases z : j = i
        · subst z
          rw [ti]
          refine ⟨?_, ?_, kb1⟩
          · rw [sp_ne (by omega), g2, if_pos rfl]
          · rw [sp_same, up_same]
        · obtain ⟨q1, q2, q3⟩ := hq j (by omega)
          refine ⟨?_, ?_, q3⟩
          · rw [sp_ne (by omega), g2, if_neg z]; exact q1
          · rw [sp_same, up_ne z, g1 27 (by omega)]; exact q2
    have put : ∀ v : Int32, (∀ a, ¬ a = 26 → st_put σ 26 i v a = σ a) ∧ ∀ j, st_put σ 26 i v 26 j = if j = i then v else σ 26 j := by
      intro v
      refine ⟨fun a ha => sp_ne ha, fun j => ?_⟩
      rw [sp_same]
      by_cases z : j = i
      · rw [if_pos z, z, up_same]
      · rw [if_neg z, up_ne z]
    rw [lett_C _ t2, dig_C _ t2]
    cases cl : lettB (T p) with
    | true =>
      have ee : tkE T len p = runE (fun j => if true then lettB (T j) else digB (T j)) p (len - p) := by unfold tkE; rw [cl]; rfl
      have kk : tkK laws T p (tkE T len p) = fkW T p (tkE T len p) (WLx laws) 0 := by unfold tkK; rw [cl]; rfl
      have re : fX4_runEnd σ (nI p) 1 = some (nI (tkE T len p)) := by
        have := runEnd_C hl a1 aT true (len - p) p FU (by omega) (by rw [FU_eq]; omega)
        rw [← ee] at this
        exact this
      rw [if_neg (show ¬ bI true = 0 by decide), re, p_cq, wordKind_C (T := T) (laws := laws) (by omega) (by omega) (fun j hj => (aT j (by omega)).1) (fun j hj => (aT j (by omega)).2) a6, p_cq, p_wrN (by omega) (by omega), ← kk]
      exact tok _ (put _).1 (put _).2
    | false =>
      rw [if_pos (show bI false = 0 from rfl)]
      cases cd : digB (T p) with
      | true =>
        have ee : tkE T len p = runE (fun j => if false then lettB (T j) else digB (T j)) p (len - p) := by unfold tkE; rw [cl, cd]; rfl
        have kk : tkK laws T p (tkE T len p) = if tkE T len p - p ≤ 4 then 1000 + numV T 0 p (tkE T len p - p) else 1 := by unfold tkK; rw [cl, cd]; rfl
        have re : fX4_runEnd σ (nI p) 0 = some (nI (tkE T len p)) := by
          have := runEnd_C hl a1 aT false (len - p) p FU (by omega) (by rw [FU_eq]; omega)
          rw [← ee] at this
          exact this
        have digs : ∀ j, p ≤ j → j < tkE T len p → digB (T j) = true := by
          intro j q1 q2
          have := (runE_b (fun j => if false then lettB (T j) else digB (T j)) (len - p) p).2.2 j q1 (by rw [← ee]; exact q2)
          exact this
        have nk : fX4_numberKind σ (nI p) (nI (tkE T len p)) = some (nI (tkK laws T p (tkE T len p))) := by
          unfold fX4_numberKind
          rw [kk, pk_sub (by omega)]
          by_cases q : tkE T len p - p ≤ 4
          · rw [if_pos (show nI (tkE T len p - p) ≤ 4 from nI_le (b := 4) q (by omega)), if_pos q]
            exact numK_C (by omega) (fun j hj => aT j (by omega)) (tkE T len p - p) p FU 0 (by omega) (by rw [FU_eq]; omega) digs
          · rw [if_neg (show ¬ nI (tkE T len p - p) ≤ 4 from fun z => q ((nI_leI (b := 4) (by omega) (by omega)).mp z)), if_neg q]; rfl
        rw [if_neg (show ¬ bI true = 0 by decide), re, p_cq, nk, p_cq, p_wrN (by omega) (by omega)]
        exact tok _ (put _).1 (put _).2
      | false =>
        have ee : tkE T len p = p + 1 := by unfold tkE; rw [cl, cd]; rfl
        have kk : tkK laws T p (tkE T len p) = if sigB (T p) then T p else 1 := by unfold tkK; rw [cl, cd]; rfl
        obtain ⟨r, r1, r2⟩ := sig_C t2
        rw [if_pos (show bI false = 0 from rfl), r1, p_cq, ← ee]
        unfold fX4_scan_129
        cases cs : sigB (T p) with
        | true =>
          rw [cs] at kk r2
          rw [if_neg (fun q => absurd (r2.mp q) (by decide)), p_wrN (by omega) (by omega)]
          exact tok _ (put _).1 (by rw [kk]; exact (put _).2)
        | false =>
          rw [cs] at kk r2
          rw [if_pos (r2.mpr rfl), p_wrN (by omega) (by omega)]
          exact tok _ (put _).1 (by rw [kk]; exact (put _).2)
