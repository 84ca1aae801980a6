/-! what a token is to the two parsers -/
def hdN (laws : Bool) : Nat := if laws then 4 else 3
def nvN (laws : Bool) : Nat := if laws then 9 else 8
def hbN (laws : Bool) : Nat := if laws then 0 else 4
def mpN (laws : Bool) : Nat → Nat := if laws then mpL else mpC
theorem sig_rng {c : Nat} (h : sigB c = true) : 40 ≤ c ∧ c ≤ 62 := by
  unfold sigB at h
  simp only [Bool.or_eq_true, beq_iff_eq] at h
  omega
theorem wl17 (laws : Bool) : wlN laws ≤ 17 := by cases laws <;> decide
theorem wl_sum (laws : Bool) : wlN laws = 4 + hdN laws + nvN laws := by cases laws <;> rfl
theorem tk_lt {laws : Bool} {κ : Nat} {t v : Int32} (h : tokOK laws κ t v) : κ < 11000 := by
  have := wl17 laws
  rcases h with ⟨h, _⟩ | ⟨h, _⟩ | ⟨h, _⟩ | ⟨i, h1, h, _⟩ | ⟨m, h1, h, _⟩
  · omega
  · omega
  · have := sig_rng h; omega
  · omega
  · omega
theorem mw_word_t : ∀ i, i < 17 → ∀ k, k < 4 → (mwN true i = 7 + k ↔ i = k) := by decide +kernel
theorem mw_word_f : ∀ i, i < 15 → ∀ k, k < 4 → (mwN false i = 7 + k ↔ i = k) := by decide +kernel
theorem mw_word (laws : Bool) {i k : Nat} (hi : i < wlN laws) (hk : k < 4) : mwN laws i = 7 + k ↔ i = k := by
  cases laws with
  | true => exact mw_word_t i hi k hk
  | false => exact mw_word_f i hi k hk
theorem bad_word : ∀ laws : Bool, ∀ j, j < 27 → badW laws j = true → ¬ (7 ≤ j ∧ j ≤ 10) := by decide +kernel
theorem i4 : ∀ a b : Nat, a < 2147483648 → b < 2147483648 → nI a = nI b → a = b := fun a b ha hb h => (nI_eq ha hb).mp h
theorem tk_sign {laws : Bool} {κ c : Nat} {τ : St} (h : tokOK laws κ (τ 0 21) (τ 0 22)) (hc : sigB c = true) : fX11_isSign τ (nI c) = bI (κ == c) := by
  have hr := sig_rng hc
  have hw := wl17 laws
  unfold fX11_isSign
  rcases h with ⟨h, ht⟩ | ⟨h, ht⟩ | ⟨h, ht, hv⟩ | ⟨i, h1, h, ht, _⟩ | ⟨m, h1, h, ht, _⟩
  · rw [ht, if_neg (by decide), h, show ((0 : Nat) == c) = false by simp; omega]; rfl
  · have : ¬ τ 0 21 = 4 := by rcases ht with ht | ⟨ht, _⟩ <;> rw [ht] <;> decide
    rw [if_neg this, h, show ((1 : Nat) == c) = false by simp; omega]; rfl
  · have := sig_rng h
    rw [ht, if_pos rfl, hv]
    by_cases q : κ = c
    · rw [if_pos (by rw [q]), q]; simp [bI]
    · rw [if_neg (fun z => q (i4 κ c (by omega) (by omega) z)), show (κ == c) = false by simp [q]]; rfl
  · rw [ht, if_neg (by decide), h, show (256 + i == c) = false by simp; omega]; rfl
  · rw [ht, if_neg (by decide), h, show (1000 + m == c) = false by simp; omega]; rfl
theorem tk_word {laws : Bool} {κ k : Nat} {τ : St} (h : tokOK laws κ (τ 0 21) (τ 0 22)) (hk : k < 4) : fX11_isWord τ (nI (7 + k)) = bI (κ == 256 + k) := by
  have hw := wl17 laws
  unfold fX11_isWord
  rcases h with ⟨h, ht⟩ | ⟨h, ht⟩ | ⟨h, ht, hv⟩ | ⟨i, h1, h, ht, hv⟩ | ⟨m, h1, h, ht, _⟩
  · rw [ht, if_neg (by decide), h, show ((0 : Nat) == 256 + k) = false by simp; omega]; rfl
  · rw [h, show ((1 : Nat) == 256 + k) = false by simp; omega]
    rcases ht with ht | ⟨ht, j, j1, j2, hv⟩
    · rw [ht, if_neg (by decide)]; rfl
    · have := bad_word laws j j1 j2
      rw [ht, if_pos rfl, hv, if_neg (fun z => by have := i4 j (7 + k) (by omega) (by omega) z; omega)]; rfl
  · have := sig_rng h
    rw [ht, if_neg (by decide), show (κ == 256 + k) = false by simp; omega]; rfl
  · have ml := (mw_e laws h1).2
    have mw := mw_word laws h1 hk
    rw [ht, if_pos rfl, hv, h]
    by_cases q : i = k
    · rw [if_pos (by rw [mw.mpr q]), q]; simp [bI]
    · rw [if_neg (fun z => q (mw.mp (i4 _ _ (by omega) (by omega) z))), show (256 + i == 256 + k) = false by simp; omega]; rfl
  · rw [ht, if_neg (by decide), h, show (1000 + m == 256 + k) = false by simp; omega]; rfl
theorem tk_end {laws : Bool} {κ : Nat} {t v : Int32} (h : tokOK laws κ t v) : t = 0 ↔ κ = 0 := by
  rcases h with ⟨h, ht⟩ | ⟨h, ht⟩ | ⟨h, ht, hv⟩ | ⟨i, h1, h, ht, hv⟩ | ⟨m, h1, h, ht, _⟩
  · rw [ht]; exact ⟨fun _ => h, fun _ => rfl⟩
  · have : ¬ t = 0 := by rcases ht with ht | ⟨ht, _⟩ <;> rw [ht] <;> decide
    exact ⟨fun z => absurd z this, fun z => by omega⟩
  · have := sig_rng h
    rw [ht]; exact ⟨fun z => absurd z (by decide), fun z => by omega⟩
  · rw [ht]; exact ⟨fun z => absurd z (by decide), fun z => by omega⟩
  · rw [ht]; exact ⟨fun z => absurd z (by decide), fun z => by omega⟩
theorem tk_num {laws : Bool} {κ : Nat} {t v : Int32} (h : tokOK laws κ t v) : (t = 3 ∧ ∃ m, m ≤ 9999 ∧ κ = 1000 + m ∧ v = nI m) ∨ (¬ t = 3 ∧ κ < 1000) := by
  have hw := wl17 laws
  rcases h with ⟨h, ht⟩ | ⟨h, ht⟩ | ⟨h, ht, hv⟩ | ⟨i, h1, h, ht, hv⟩ | ⟨m, h1, h, ht, hv⟩
  · rw [ht]; exact Or.inr ⟨by decide, by omega⟩
  · exact Or.inr ⟨by rcases ht with ht | ⟨ht, _⟩ <;> rw [ht] <;> decide, by omega⟩
  · have := sig_rng h
    rw [ht]; exact Or.inr ⟨by decide, by omega⟩
  · rw [ht]; exact Or.inr ⟨by decide, by omega⟩
  · exact Or.inl ⟨ht, m, h1, h, hv⟩
theorem beg_t : ∀ i, i < 17 → ((mwN true i ≤ 3) ↔ (4 ≤ i ∧ i < 8)) ∧ (4 ≤ i → i < 8 → mwN true i = 0 + (i - 4)) := by decide +kernel
theorem beg_f : ∀ i, i < 15 → ((4 ≤ mwN false i ∧ mwN false i ≤ 6) ↔ (4 ≤ i ∧ i < 7)) ∧ (4 ≤ i → i < 7 → mwN false i = 4 + (i - 4)) := by decide +kernel
theorem badb_t : ∀ j, j < 27 → badW true j = true → ¬ j ≤ 3 := by decide +kernel
theorem badb_f : ∀ j, j < 27 → badW false j = true → ¬ (4 ≤ j ∧ j ≤ 6) := by decide +kernel
theorem in_nI {a lo hi : Nat} (ha : a < 1000) (hl : lo < 1000) (hh : hi < 1000) : fX11_isIn (nI a) (nI lo) (nI hi) = bI (decide (lo ≤ a ∧ a ≤ hi)) := by
  by_cases q : lo ≤ a ∧ a ≤ hi
  · rw [ii_t ⟨nI_le q.1 (by omega), nI_le q.2 (by omega)⟩, decide_eq_true q]; rfl
  · rw [ii_f (fun z => q ⟨(nI_leI (by omega) (by omega)).mp z.1, (nI_leI (by omega) (by omega)).mp z.2⟩), decide_eq_false q]; rfl
/-- a line's first word -/
theorem tk_begin {laws : Bool} {κ : Nat} {τ : St} (h : tokOK laws κ (τ 0 21) (τ 0 22)) (hl : τ 0 32 = bI laws) : (fX11_isBegin τ = 1 ∧ ∃ i, i < hdN laws ∧ κ = 260 + i ∧ τ 0 22 = nI (hbN laws + i)) ∨ (fX11_isBegin τ = 0 ∧ ¬ (260 ≤ κ ∧ κ < 260 + hdN laws)) := by
  have hw := wl17 laws
  have hd4 : hdN laws ≤ 4 := by cases laws <;> decide
  unfold fX11_isBegin
  rw [hl]
  rcases h with ⟨h, ht⟩ | ⟨h, ht⟩ | ⟨h, ht, hv⟩ | ⟨i, h1, h, ht, hv⟩ | ⟨m, h1, h, ht, _⟩
  · rw [ht, if_neg (by decide)]; exact Or.inr ⟨rfl, by omega⟩
  · refine Or.inr ⟨?_, by omega⟩
    rcases ht with ht | ⟨ht, j, j1, j2, hv⟩
    · rw [ht, if_neg (by decide)]
    · rw [ht, if_pos rfl, hv]
      cases laws with
      | true =>
        have := badb_t j j1 j2
        rw [if_neg (show ¬ bI true = 0 by decide), if_pos (show (3 : Int32) < nI j from nI_lt (a := 3) (by omega) (by omega))]
      | false =>
        have := badb_f j j1 j2
        rw [if_pos (show bI false = 0 from rfl), show fX11_isIn (nI j) 4 6 = bI (decide (4 ≤ j ∧ j ≤ 6)) from in_nI (lo := 4) (hi := 6) (by omega) (by omega) (by omega), decide_eq_false this, if_pos (show bI false = 0 from rfl)]
  · have := sig_rng h
    rw [ht, if_neg (by decide)]; exact Or.inr ⟨rfl, by omega⟩
  · have ml := (mw_e laws h1).2
    rw [ht, if_pos rfl, hv]
    cases laws with
    | true =>
      obtain ⟨b1, b2⟩ := beg_t i h1
      rw [if_neg (show ¬ bI true = 0 by decide)]
      by_cases q : mwN true i ≤ 3
      · rw [if_neg (show ¬ (3 : Int32) < nI (mwN true i) from fun z => absurd ((nI_ltI (a := 3) (by omega) (by omega)).mp z) (by omega))]
        obtain ⟨p1, p2⟩ := b1.mp q
        exact Or.inl ⟨rfl, i - 4, by show i - 4 < 4; omega, by omega, by rw [b2 p1 p2]; rfl⟩
      · rw [if_pos (show (3 : Int32) < nI (mwN true i) from nI_lt (a := 3) (by omega) (by omega))]
        refine Or.inr ⟨rfl, fun z => q (b1.mpr ?_)⟩
        have : hdN true = 4 := rfl
        omega
    | false =>
      obtain ⟨b1, b2⟩ := beg_f i h1
      rw [if_pos (show bI false = 0 from rfl), show fX11_isIn (nI (mwN false i)) 4 6 = bI (decide (4 ≤ mwN false i ∧ mwN false i ≤ 6)) from in_nI (lo := 4) (hi := 6) (by omega) (by omega) (by omega)]
      by_cases q : 4 ≤ mwN false i ∧ mwN false i ≤ 6
      · rw [decide_eq_true q, if_neg (show ¬ bI true = 0 by decide)]
        obtain ⟨p1, p2⟩ := b1.mp q
        exact Or.inl ⟨rfl, i - 4, by show i - 4 < 3; omega, by omega, by rw [b2 p1 p2]; rfl⟩
      · rw [decide_eq_false q, if_pos (show bI false = 0 from rfl)]
        refine Or.inr ⟨rfl, fun z => q (b1.mpr ?_)⟩
        have : hdN false = 3 := rfl
        omega
  · rw [ht, if_neg (by decide)]; exact Or.inr ⟨rfl, by omega⟩
theorem ask_t : ∀ i, i < 17 → ((11 ≤ mwN true i ∧ mwN true i ≤ 19) ↔ 8 ≤ i) ∧ (8 ≤ i → mwN true i = 11 + mpL (i - 8)) := by decide +kernel
theorem ask_f : ∀ i, i < 15 → ((mwN false i = 16 ∨ (20 ≤ mwN false i ∧ mwN false i ≤ 26)) ↔ 7 ≤ i) ∧ (7 ≤ i → mwN false i = 11 + mpC (i - 7)) := by decide +kernel
theorem bada_t : ∀ j, j < 27 → badW true j = true → ¬ (11 ≤ j ∧ j ≤ 19) := by decide +kernel
theorem bada_f : ∀ j, j < 27 → badW false j = true → ¬ (j = 16 ∨ (20 ≤ j ∧ j ≤ 26)) := by decide +kernel
/-- a word that asks -/
theorem tk_ask {laws : Bool} {κ : Nat} {τ : St} (h : tokOK laws κ (τ 0 21) (τ 0 22)) (hl : τ 0 32 = bI laws) : (fX11_isAsking τ = 1 ∧ ∃ i, i < nvN laws ∧ κ = 260 + hdN laws + i ∧ τ 0 22 - 11 = nI (mpN laws i) ∧ κ < 1000) ∨ (fX11_isAsking τ = 0 ∧ (κ < 260 + hdN laws ∨ 1000 ≤ κ)) := by
  have hw := wl17 laws
  unfold fX11_isAsking
  rw [hl]
  rcases h with ⟨h, ht⟩ | ⟨h, ht⟩ | ⟨h, ht, hv⟩ | ⟨i, h1, h, ht, hv⟩ | ⟨m, h1, h, ht, _⟩
  · rw [ht, if_neg (by decide)]; exact Or.inr ⟨rfl, by omega⟩
  · refine Or.inr ⟨?_, by omega⟩
    rcases ht with ht | ⟨ht, j, j1, j2, hv⟩
    · rw [ht, if_neg (by decide)]
    · rw [ht, if_pos rfl, hv]
      cases laws with
      | true =>
        have := bada_t j j1 j2
        rw [if_neg (show ¬ bI true = 0 by decide), show fX11_isIn (nI j) 11 19 = bI (decide (11 ≤ j ∧ j ≤ 19)) from in_nI (lo := 11) (hi := 19) (by omega) (by omega) (by omega), decide_eq_false this, if_pos (show bI false = 0 from rfl)]
      | false =>
        have := bada_f j j1 j2
        rw [if_pos (show bI false = 0 from rfl), if_neg (show ¬ nI j = 16 from fun z => this (Or.inl (i4 j 16 (by omega) (by omega) z))), show fX11_isIn (nI j) 20 26 = bI (decide (20 ≤ j ∧ j ≤ 26)) from in_nI (lo := 20) (hi := 26) (by omega) (by omega) (by omega), decide_eq_false (fun z => this (Or.inr z)), if_pos (show bI false = 0 from rfl)]
  · have := sig_rng h
    rw [ht, if_neg (by decide)]; exact Or.inr ⟨rfl, by omega⟩
  · have ml := (mw_e laws h1).2
    rw [ht, if_pos rfl, hv]
    cases laws with
    | true =>
      obtain ⟨b1, b2⟩ := ask_t i h1
      have hw' : wlN true = 17 := rfl
      rw [if_neg (show ¬ bI true = 0 by decide), show fX11_isIn (nI (mwN true i)) 11 19 = bI (decide (11 ≤ mwN true i ∧ mwN true i ≤ 19)) from in_nI (lo := 11) (hi := 19) (by omega) (by omega) (by omega)]
      by_cases q : 11 ≤ mwN true i ∧ mwN true i ≤ 19
      · rw [decide_eq_true q, if_neg (show ¬ bI true = 0 by decide)]
        have p1 := b1.mp q
        refine Or.inl ⟨rfl, i - 8, by show i - 8 < 9; omega, by show κ = 260 + 4 + (i - 8); omega, ?_, by omega⟩
        rw [b2 p1, show (11 : Int32) = nI 11 from rfl, pk_sub (by omega), Nat.add_sub_cancel_left]; rfl
      · rw [decide_eq_false q, if_pos (show bI false = 0 from rfl)]
        refine Or.inr ⟨rfl, Or.inl ?_⟩
        have : ¬ 8 ≤ i := fun z => q (b1.mpr z)
        show κ < 260 + 4
        omega
    | false =>
      obtain ⟨b1, b2⟩ := ask_f i h1
      have hw' : wlN false = 15 := rfl
      rw [if_pos (show bI false = 0 from rfl), show fX11_isIn (nI (mwN false i)) 20 26 = bI (decide (20 ≤ mwN false i ∧ mwN false i ≤ 26)) from in_nI (lo := 20) (hi := 26) (by omega) (by omega) (by omega)]
      by_cases q : 7 ≤ i
      · have val : nI (mwN false i) - 11 = nI (mpC (i - 7)) := by
          rw [b2 q, show (11 : Int32) = nI 11 from rfl, pk_sub (by omega), Nat.add_sub_cancel_left]
        have res : ∃ i', i' < nvN false ∧ κ = 260 + hdN false + i' ∧ nI (mwN false i) - 11 = nI (mpN false i') ∧ κ < 1000 := ⟨i - 7, by show i - 7 < 8; omega, by show κ = 260 + 3 + (i - 7); omega, val, by omega⟩
        rcases b1.mpr q with z | z
        · rw [if_pos (show nI (mwN false i) = 16 by rw [z]; rfl)]; exact Or.inl ⟨rfl, res⟩
        · rw [if_neg (show ¬ nI (mwN false i) = 16 from fun w => by have := i4 (mwN false i) 16 (by omega) (by omega) w; omega), decide_eq_true z, if_neg (show ¬ bI true = 0 by decide)]
          exact Or.inl ⟨rfl, res⟩
      · have nz : ¬ (mwN false i = 16 ∨ (20 ≤ mwN false i ∧ mwN false i ≤ 26)) := fun z => q (b1.mp z)
        rw [if_neg (show ¬ nI (mwN false i) = 16 from fun w => nz (Or.inl (i4 (mwN false i) 16 (by omega) (by omega) w))), decide_eq_false (fun z => nz (Or.inr z)), if_pos (show bI false = 0 from rfl)]
        refine Or.inr ⟨rfl, Or.inl ?_⟩
        show κ < 260 + 3
        omega
  · rw [ht, if_neg (by decide)]; exact Or.inr ⟨rfl, by omega⟩
