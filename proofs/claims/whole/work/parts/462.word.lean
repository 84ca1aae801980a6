/-! words of the two texts -/
def lettB (c : Nat) : Bool := (97 ≤ c && c ≤ 122) || (65 ≤ c && c ≤ 90)
def digB (c : Nat) : Bool := 48 ≤ c && c ≤ 57
def sigB (c : Nat) : Bool := c == 59 || c == 43 || c == 45 || c == 42 || c == 47 || c == 40 || c == 41 || c == 60 || c == 61 || c == 62
def blaB (c : Nat) : Bool := c == 32 || c == 10
theorem lett_C : ∀ c, c < 256 → fX4_isLetter (nI c) = bI (lettB c) := by decide +kernel
theorem dig_C : ∀ c, c < 256 → fX4_isDigit (nI c) = bI (digB c) := by decide +kernel
theorem lett_M : ∀ c, c < 256 → fX11_isLetter (nI c) = bI (lettB c) := by decide +kernel
theorem dig_M : ∀ c, c < 256 → fX11_isDigit (nI c) = bI (digB c) := by decide +kernel
theorem sig_M : ∀ c, c < 256 → fX11_isMarkSign (nI c) = bI (sigB c) := by decide +kernel
def sigQ (c : Nat) : Bool := match fJ0_indexOf_0f7a4 2 (((nI c).toUInt32 % 65536).toInt32) with
  | some r => decide (r < 0) == !sigB c
  | none => false
theorem sig_q : ∀ c, c < 256 → sigQ c = true := by decide +kernel
theorem sig_C {c : Nat} (hc : c < 256) : ∃ r, fJ0_indexOf_0f7a4 2 (((nI c).toUInt32 % 65536).toInt32) = some r ∧ (r < 0 ↔ sigB c = false) := by
  have := sig_q c hc
  unfold sigQ at this
  cases e : fJ0_indexOf_0f7a4 2 (((nI c).toUInt32 % 65536).toInt32) with
  | none => rw [e] at this; exact absurd this Bool.false_ne_true
  | some r =>
    rw [e] at this
    refine ⟨r, rfl, ?_⟩
    cases hs : sigB c with
    | true => rw [hs] at this; simpa using this
    | false => rw [hs] at this; simpa using this
def WLl : List (List Nat) := [[119, 104, 101, 110], [111, 114], [97, 110, 100], [110, 111, 116], [100, 111, 119, 110], [100, 114, 121], [115, 111, 117, 112], [115, 119, 101, 97, 116], [119, 101, 116], [119, 97, 116, 101, 114], [111, 114, 101], [108, 97, 121, 101, 114], [115, 111, 114, 116], [114, 97, 105, 110], [99, 108, 111, 99, 107], [115, 104, 97, 107, 101, 110], [108, 105, 116]]
def WLc : List (List Nat) := [[119, 104, 101, 110], [111, 114], [97, 110, 100], [110, 111, 116], [108, 111, 97, 100], [115, 116, 111, 112], [116, 101, 115, 116], [115, 97, 105, 100], [99, 97, 110], [97, 103, 101], [114, 97, 105, 110], [100, 97, 121], [108, 111, 97, 100, 101, 100], [115, 119, 101, 108, 108], [112, 111, 114, 116]]
def WM : List (List Nat) := [[100, 111, 119, 110], [100, 114, 121], [115, 111, 117, 112], [115, 119, 101, 97, 116], [108, 111, 97, 100], [115, 116, 111, 112], [116, 101, 115, 116], [119, 104, 101, 110], [111, 114], [97, 110, 100], [110, 111, 116], [119, 101, 116], [119, 97, 116, 101, 114], [111, 114, 101], [108, 97, 121, 101, 114], [115, 111, 114, 116], [114, 97, 105, 110], [99, 108, 111, 99, 107], [115, 104, 97, 107, 101, 110], [108, 105, 116], [115, 97, 105, 100], [99, 97, 110], [97, 103, 101], [100, 97, 121], [108, 111, 97, 100, 101, 100], [115, 119, 101, 108, 108], [112, 111, 114, 116]]
def jnW : List (List Nat) → List Nat
  | [] => []
  | [w] => w
  | w :: v :: r => w ++ 32 :: jnW (v :: r)
def jnS : List (List Nat) → List Nat
  | [] => []
  | w :: r => w ++ 32 :: jnS r
theorem ch_0 : ∀ j, j < 82 → fJ0_charAt_5068e 0 (nI j) = some (nI ((jnW WLl).getD j 0)) := by decide +kernel
theorem ch_1 : ∀ j, j < 70 → fJ0_charAt_5068e 1 (nI j) = some (nI ((jnW WLc).getD j 0)) := by decide +kernel
theorem len_0 : fJ0_length_8abf5 0 = nI 82 := by decide +kernel
theorem len_1 : fJ0_length_8abf5 1 = nI 70 := by decide +kernel
theorem jl_0 : (jnW WLl).length = 82 := by decide +kernel
theorem jl_1 : (jnW WLc).length = 70 := by decide +kernel
theorem wordsM_jn : wordsM = 32 :: jnS WM := by decide +kernel
theorem wordsM_len : wordsM.length = 134 := by decide +kernel
def matW (T : Nat → Nat) (e p : Nat) : List Nat → Bool
  | [] => true
  | c :: r => decide (p < e) && T p == c && matW T e (p + 1) r
def hitW (T : Nat → Nat) (s e : Nat) (v : List Nat) : Bool := matW T e s v && s + v.length == e
theorem mat_inj {T : Nat → Nat} {e : Nat} : ∀ (v v' : List Nat) (p : Nat), matW T e p v = true → matW T e p v' = true → v.length = v'.length → v = v' := by
  intro v
  induction v with
  | nil => intro v' p _ _ h; cases v' with
    | nil => rfl
    | cons => simp at h
  | cons c r ih => intro v' p h1 h2 h; cases v' with
    | nil => simp at h
    | cons c' r' =>
      unfold matW at h1 h2
      simp only [Bool.and_eq_true, beq_iff_eq] at h1 h2
      rw [ih r' (p + 1) h1.2 h2.2 (by simpa using h), ← h1.1.2, h2.1.2]
theorem hit_inj {T : Nat → Nat} {s e : Nat} {v v' : List Nat} (h : hitW T s e v = true) (h' : hitW T s e v' = true) : v = v' := by
  unfold hitW at h h'
  simp only [Bool.and_eq_true, beq_iff_eq] at h h'
  exact mat_inj v v' s h.1 h'.1 (by omega)
theorem drop_s {L : List Nat} {o c : Nat} {r : List Nat} (h : L.drop o = c :: r) : L.getD o 0 = c ∧ o < L.length ∧ L.drop (o + 1) = r := by
  have hl : o < L.length := by
    apply Decidable.byContradiction
    intro q
    rw [List.drop_eq_nil_of_le (by omega)] at h
    exact absurd h (by simp)
  rw [List.drop_eq_getElem_cons hl] at h
  injection h with h1 h2
  exact ⟨by rw [← h1]; simp [List.getD, hl], hl, h2⟩
theorem drop_all {L : List Nat} {o : Nat} : ∀ (v : List Nat) {o : Nat} {r : List Nat}, L.drop o = v ++ r → L.drop (o + v.length) = r := by
  intro v
  induction v with
  | nil => intro o r h; simpa using h
  | cons c v ih =>
    intro o r h
    obtain ⟨_, _, h2⟩ := drop_s h
    have := ih h2
    rw [show o + (c :: v).length = o + 1 + v.length by simp; omega]
    exact this
/-! the class -/
theorem wk_s (σ : St) (f : Nat) (a b : Int32) (k : Nat) (c d e g : Int32) : fX4_wordKind_29 σ (f + 1) a b k c d e g = fX4_wordKind_29B σ (fX4_wordKind_29 σ f) a b k c d e g := rfl
theorem wk_letters {σ : St} {T : Nat → Nat} {s e k M : Nat} {L : List Nat} {κ : Int32} (he : e ≤ 600) (hT : ∀ j, j < e → σ 25 j = nI (T j)) (hT2 : ∀ j, j < e → T j < 256) (hL : L.length = M) (hM : M < 1000) (hL2 : ∀ c ∈ L, c < 256) (hlen : fJ0_length_8abf5 k = nI M) (hch : ∀ j, j < M → fJ0_charAt_5068e k (nI j) = some (nI (L.getD j 0))) : ∀ (v : List Nat) (rest : List Nat) (o p f : Nat) (b : Bool), (∀ c ∈ v, ¬ c = 32) → L.drop o = v ++ rest → p + v.length < 3000 → v.length < f → fX4_wordKind_29 σ f (nI s) (nI e) k κ (nI p) (bI b) (nI o) = fX4_wordKind_29 σ (f - v.length) (nI s) (nI e) k κ (nI (p + v.length)) (bI (b && matW T e p v)) (nI (o + v.length)) := by
  intro v
  induction v with
  | nil => intro rest o p f b _ _ _ _; simp [matW]
  | cons c v ih =>
    intro rest o p f b hv hd hp hf
    obtain ⟨d1, d2, d3⟩ := drop_s hd
    obtain ⟨f, rfl⟩ : ∃ g, f = g + 1 := ⟨f - 1, by omega⟩
    have c32 : ¬ c = 32 := hv c (by simp)
    have cl : c < 256 := hL2 c (by
      have : c ∈ L.drop o := by rw [hd]; simp
      exact List.mem_of_mem_drop this)
    rw [wk_s]; unfold fX4_wordKind_29B
    rw [hlen, if_neg (fun q => absurd ((nI_leI (by omega) (by omega)).mp q) (by omega)), hch o (by omega), p_cq, d1, if_neg (show ¬ nI c = 32 from fun q => c32 ((nI_eq (b := 32) (by omega) (by omega)).mp q)), show nI p + 1 = nI (p + 1) from (nI_succ _).symm, show nI o + 1 = nI (o + 1) from (nI_succ _).symm]
    have fin : ∀ b', b' = (b && decide (p < e) && T p == c) → fX4_wordKind_29 σ f (nI s) (nI e) k κ (nI (p + 1)) (bI b') (nI (o + 1)) = fX4_wordKind_29 σ (f + 1 - (c :: v).length) (nI s) (nI e) k κ (nI (p + (c :: v).length)) (bI (b && matW T e p (c :: v))) (nI (o + (c :: v).length)) := by
      intro b' hb
      rw [ih rest (o + 1) (p + 1) f b' (fun c hc => hv c (by simp [hc])) d3 (by simp at hp; omega) (by simp at hf; omega)]
      rw [hb]
      have e1 : (b && matW T e p (c :: v)) = (b && decide (p < e) && T p == c && matW T e (p + 1) v) := by
        show (b && (decide (p < e) && T p == c && matW T e (p + 1) v)) = _
        cases b <;> simp [Bool.and_assoc]
      rw [e1, show f + 1 - (c :: v).length = f - v.length by simp, show p + 1 + v.length = p + (c :: v).length by simp; omega, show o + 1 + v.length = o + (c :: v).length by simp; omega]
    cases b with
    | false =>
      rw [if_pos (show bI false = 0 from rfl)]
      exact fin false (by simp)
    | true =>
      rw [if_neg (show ¬ bI true = 0 by decide)]
      by_cases q : p < e
      · rw [if_neg (fun w => absurd ((nI_leI (by omega) (by omega)).mp w) (by omega)), p_rdN (by omega) (by omega), hT p q]
        have := hT2 p q
        by_cases w : T p = c
        · rw [if_pos (by rw [w])]
          exact fin true (by simp [q, w])
        · rw [if_neg (fun z => w ((nI_eq (by omega) (by omega)).mp z))]
          exact fin false (by simp [q, w])
      · rw [if_pos (nI_le (by omega) (by omega))]
        exact fin false (by simp [q])
def fkW (T : Nat → Nat) (s e : Nat) : List (List Nat) → Nat → Nat
  | [], _ => 1
  | w :: r, i => if hitW T s e w then 256 + i else fkW T s e r (i + 1)
theorem wk_words {σ : St} {T : Nat → Nat} {s e k M : Nat} {L : List Nat} (he : e ≤ 600) (hs : s ≤ e) (hT : ∀ j, j < e → σ 25 j = nI (T j)) (hT2 : ∀ j, j < e → T j < 256) (hL : L.length = M) (hM : M < 1000) (hL2 : ∀ c ∈ L, c < 256) (hlen : fJ0_length_8abf5 k = nI M) (hch : ∀ j, j < M → fJ0_charAt_5068e k (nI j) = some (nI (L.getD j 0))) : ∀ (ws : List (List Nat)) (o i f : Nat), L.drop o = jnW ws → ¬ ws = [] → (∀ w ∈ ws, ∀ c ∈ w, ¬ c = 32) → o ≤ M → i + ws.length < 1000 → (jnW ws).length < f → fX4_wordKind_29 σ f (nI s) (nI e) k (nI (256 + i)) (nI s) 1 (nI o) = some (nI (fkW T s e ws i)) := by
  intro ws
  induction ws with
  | nil => intro o i f _ h; exact absurd rfl h
  | cons w r ih =>
    intro o i f hd _ hw ho hi hf
    have dl : L.length - o = (jnW (w :: r)).length := by rw [← hd, List.length_drop]
    have hw' : ∀ c ∈ w, ¬ c = 32 := hw w (by simp)
    have hit : hitW T s e w = true ↔ (matW T e s w = true ∧ s + w.length = e) := by unfold hitW; simp
    cases r with
    | nil =>
      have dl' : L.length - o = w.length := dl
      have hf' : w.length < f := hf
      have := wk_letters (s := s) (k := k) (κ := nI (256 + i)) he hT hT2 hL hM hL2 hlen hch w [] o s f true hw' (by rw [hd]; simp [jnW]) (by omega) hf'
      rw [show bI true = 1 from rfl, Bool.true_and] at this
      rw [this]
      obtain ⟨g, hg⟩ : ∃ g, f - w.length = g + 1 := ⟨f - w.length - 1, by omega⟩
      rw [hg, wk_s]; unfold fX4_wordKind_29B
      rw [hlen, if_pos (nI_le (by omega) (by omega))]
      show _ = some (nI (if hitW T s e w then 256 + i else 1))
      cases hm : matW T e s w with
      | false =>
        rw [if_pos (show bI false = 0 from rfl), if_neg (by rw [hit, hm]; simp)]; rfl
      | true =>
        rw [if_neg (show ¬ bI true = 0 by decide)]
        by_cases q : s + w.length = e
        · rw [if_pos (by rw [q]), if_pos (hit.mpr ⟨hm, q⟩)]
        · rw [if_neg (fun z => q ((nI_eq (by omega) (by omega)).mp z)), if_neg (fun z => q (hit.mp z).2)]; rfl
    | cons w2 r =>
      have hd' : L.drop o = w ++ 32 :: jnW (w2 :: r) := hd
      have jl : (jnW (w :: w2 :: r)).length = w.length + 1 + (jnW (w2 :: r)).length := by
        show (w ++ 32 :: jnW (w2 :: r)).length = _
        rw [List.length_append, List.length_cons]; omega
      rw [jl] at dl hf
      have := wk_letters (s := s) (k := k) (κ := nI (256 + i)) he hT hT2 hL hM hL2 hlen hch w (32 :: jnW (w2 :: r)) o s f true hw' hd' (by omega) (by omega)
      rw [show bI true = 1 from rfl, Bool.true_and] at this
      rw [this]
      have dw := drop_all (o := o) w hd'
      obtain ⟨d1, d2, d3⟩ := drop_s dw
      obtain ⟨g, hg⟩ : ∃ g, f - w.length = g + 1 := ⟨f - w.length - 1, by omega⟩
      rw [hg, wk_s]; unfold fX4_wordKind_29B
      have nxt := ih (o + w.length + 1) (i + 1) g d3 (by simp) (fun w' hw'' => hw w' (by simp [hw''])) (by omega) (by simp at hi ⊢; omega) (by omega)
      rw [hlen, if_neg (fun q => absurd ((nI_leI (by omega) (by omega)).mp q) (by omega)), hch _ (by omega), p_cq, d1, if_pos (show nI 32 = 32 from rfl), show nI (o + w.length) + 1 = nI (o + w.length + 1) from (nI_succ _).symm, show nI (256 + i) + 1 = nI (256 + (i + 1)) from (nI_succ _).symm, nxt]
      show _ = some (nI (if hitW T s e w then 256 + i else fkW T s e (w2 :: r) (i + 1)))
      cases hm : matW T e s w with
      | false =>
        rw [if_pos (show bI false = 0 from rfl), if_neg (by rw [hit, hm]; simp)]
      | true =>
        rw [if_neg (show ¬ bI true = 0 by decide)]
        by_cases q : s + w.length = e
        · rw [if_pos (by rw [q]), if_pos (hit.mpr ⟨hm, q⟩)]
        · rw [if_neg (fun z => q ((nI_eq (by omega) (by omega)).mp z)), if_neg (fun z => q (hit.mp z).2)]
def WLx (laws : Bool) : List (List Nat) := if laws then WLl else WLc
theorem wordKind_C {σ : St} {T : Nat → Nat} {s e : Nat} {laws : Bool} (he : e ≤ 600) (hs : s ≤ e) (hT : ∀ j, j < e → σ 25 j = nI (T j)) (hT2 : ∀ j, j < e → T j < 256) (hl : σ 24 6 = bI laws) : fX4_wordKind σ (nI s) (nI e) = some (nI (fkW T s e (WLx laws) 0)) := by
  unfold fX4_wordKind
  rw [hl]
  cases laws with
  | true =>
    rw [if_neg (show ¬ bI true = 0 by decide)]
    exact wk_words (k := 0) (M := 82) (L := jnW WLl) he hs hT hT2 jl_0 (by omega) (by decide +kernel) len_0 ch_0 WLl 0 0 FU rfl (by decide) (by decide +kernel) (by omega) (by decide) (by rw [jl_0, FU_eq]; omega)
  | false =>
    rw [if_pos (show bI false = 0 from rfl)]
    exact wk_words (k := 1) (M := 70) (L := jnW WLc) he hs hT hT2 jl_1 (by omega) (by decide +kernel) len_1 ch_1 WLc 0 0 FU rfl (by decide) (by decide +kernel) (by omega) (by decide) (by rw [jl_1, FU_eq]; omega)
/-! the model -/
theorem wa94_s (σ : St) (r : Int32 → Int32 → Int32 → Int32 → Option Int32) (f : Nat) (a b c d : Int32) : fX11_wordAt_94 σ r (f + 1) a b c d = fX11_wordAt_94B σ r (fX11_wordAt_94 σ r f) a b c d := rfl
theorem wa20_s (σ : St) (r : Int32 → Int32 → Int32 → Int32 → Option Int32) (f : Nat) (a b c d e : Int32) : fX11_wordAt_20 σ r (f + 1) a b c d e = fX11_wordAt_20B σ r (fX11_wordAt_20 σ r f) a b c d e := rfl
theorem wa5_s (σ : St) (f : Nat) (a b c d : Int32) : fX11_wordAt_5 σ (f + 1) a b c d = fX11_wordAt_5B σ (fX11_wordAt_5 σ f) a b c d := rfl
theorem wM_lt : ∀ c ∈ wordsM, c < 256 := by decide +kernel
theorem wa_skip {τ : St} {rec5 : Int32 → Int32 → Int32 → Int32 → Option Int32} {a b c : Int32} (hw : r_wordsM (τ 14)) : ∀ (v rest : List Nat) (p f : Nat), (∀ c ∈ v, ¬ c = 32) → wordsM.drop p = v ++ 32 :: rest → v.length < f → fX11_wordAt_94 τ rec5 f a b c (nI p) = rec5 a b c (nI (p + v.length)) := by
  intro v
  induction v with
  | nil =>
    intro rest p f _ hd hf
    obtain ⟨d1, d2, d3⟩ := drop_s hd
    rw [wordsM_len] at d2
    obtain ⟨f, rfl⟩ : ∃ g, f = g + 1 := ⟨f - 1, by omega⟩
    rw [wa94_s]; unfold fX11_wordAt_94B
    rw [p_rdN d2 (by omega), hw p d2, d1, if_pos (show nI 32 = 32 from rfl)]; rfl
  | cons c v ih =>
    intro rest p f hv hd hf
    obtain ⟨d1, d2, d3⟩ := drop_s hd
    have cl : c < 256 := wM_lt c (by
      have : c ∈ wordsM.drop p := by rw [hd]; simp
      exact List.mem_of_mem_drop this)
    rw [wordsM_len] at d2
    obtain ⟨f, rfl⟩ : ∃ g, f = g + 1 := ⟨f - 1, by omega⟩
    rw [wa94_s]; unfold fX11_wordAt_94B
    rw [p_rdN d2 (by omega), hw p d2, d1, if_neg (show ¬ nI c = 32 from fun q => hv c (by simp) ((nI_eq (b := 32) (by omega) (by omega)).mp q)), show nI p + 1 = nI (p + 1) from (nI_succ _).symm, ih rest (p + 1) f (fun c hc => hv c (by simp [hc])) d3 (by simp at hf; omega)]
    rw [show p + 1 + v.length = p + (c :: v).length by simp; omega]
theorem wa_word {τ : St} {T : Nat → Nat} {s e O i : Nat} {rec5 : Int32 → Int32 → Int32 → Int32 → Option Int32} (hw : r_wordsM (τ 14)) (he : e ≤ 600) (hT : ∀ j, j < e → τ 13 j = nI (T j)) (hT2 : ∀ j, s ≤ j → j < e → T j < 256 ∧ ¬ T j = 32) : ∀ (v rest : List Nat) (j f : Nat), (∀ c ∈ v, ¬ c = 32) → wordsM.drop (O + 1 + j) = v ++ 32 :: rest → s + j ≤ e → v.length < f → fX11_wordAt_20 τ rec5 f (nI s) (nI e) (nI i) (nI O) (nI j) = if matW T e (s + j) v && s + j + v.length == e then some (nI i) else fX11_wordAt_94 τ rec5 FU (nI s) (nI e) (nI i) (nI (O + 1)) := by
  intro v
  induction v with
  | nil =>
    intro rest j f _ hd hj hf
    obtain ⟨d1, d2, d3⟩ := drop_s hd
    rw [wordsM_len] at d2
    obtain ⟨f, rfl⟩ : ∃ g, f = g + 1 := ⟨f - 1, by omega⟩
    rw [wa20_s]; unfold fX11_wordAt_20B fX11_wordAt_61
    have ix : nI O + 1 + nI j = nI (O + 1 + j) := by rw [show nI O + 1 = nI (O + 1) from (nI_succ _).symm, nI_add]
    rw [nI_add, ix, show nI O + 1 = nI (O + 1) from (nI_succ _).symm]
    by_cases q : s + j = e
    · rw [if_pos (nI_le (by omega) (by omega)), if_pos (by rw [q]), p_rdN d2 (by omega), hw _ d2, d1, if_pos (show nI 32 = 32 from rfl), if_pos (by simp [matW, q])]
    · obtain ⟨t1, t2⟩ := hT2 (s + j) (by omega) (by omega)
      rw [if_neg (fun z => absurd ((nI_leI (by omega) (by omega)).mp z) (by omega)), p_rdN d2 (by omega), hw _ d2, d1, p_rdN (by omega) (by omega), hT _ (by omega), if_neg (fun z => t2 ((nI_eq (by omega) (by omega)).mp z.symm)), if_neg (fun z => q ((nI_eq (by omega) (by omega)).mp z)), if_neg (by simp [q])]
  | cons c v ih =>
    intro rest j f hv hd hj hf
    obtain ⟨d1, d2, d3⟩ := drop_s hd
    have cl : c < 256 := wM_lt c (by
      have : c ∈ wordsM.drop (O + 1 + j) := by rw [hd]; simp
      exact List.mem_of_mem_drop this)
    have c32 : ¬ c = 32 := hv c (by simp)
    rw [wordsM_len] at d2
    obtain ⟨f, rfl⟩ : ∃ g, f = g + 1 := ⟨f - 1, by omega⟩
    rw [wa20_s]; unfold fX11_wordAt_20B fX11_wordAt_61
    have ix : nI O + 1 + nI j = nI (O + 1 + j) := by rw [show nI O + 1 = nI (O + 1) from (nI_succ _).symm, nI_add]
    rw [nI_add, ix, show nI O + 1 = nI (O + 1) from (nI_succ _).symm, show nI j + 1 = nI (j + 1) from (nI_succ _).symm]
    by_cases q : s + j = e
    · rw [if_pos (nI_le (by omega) (by omega)), if_pos (by rw [q]), p_rdN d2 (by omega), hw _ d2, d1, if_neg (show ¬ nI c = 32 from fun z => c32 ((nI_eq (b := 32) (by omega) (by omega)).mp z)), if_neg (by simp [matW, q])]
    · obtain ⟨t1, t2⟩ := hT2 (s + j) (by omega) (by omega)
      rw [if_neg (fun z => absurd ((nI_leI (by omega) (by omega)).mp z) (by omega)), p_rdN d2 (by omega), hw _ d2, d1, p_rdN (by omega) (by omega), hT _ (by omega)]
      by_cases w : T (s + j) = c
      · rw [if_pos (by rw [w]), ih rest (j + 1) f (fun c hc => hv c (by simp [hc])) d3 (by omega) (by simp at hf; omega)]
        have e1 : (matW T e (s + j) (c :: v) && s + j + (c :: v).length == e) = (matW T e (s + (j + 1)) v && s + (j + 1) + v.length == e) := by
          show (decide (s + j < e) && T (s + j) == c && matW T e (s + j + 1) v && s + j + (c :: v).length == e) = _
          rw [w, show s + j + 1 = s + (j + 1) by omega, show s + j + (c :: v).length = s + (j + 1) + v.length by simp; omega]
          simp [show s + j < e by omega]
        rw [e1]
      · rw [if_neg (fun z => w ((nI_eq (by omega) (by omega)).mp z).symm), if_neg (fun z => q ((nI_eq (by omega) (by omega)).mp z)), if_neg (by simp [matW, w])]
def fmW (T : Nat → Nat) (s e : Nat) : List (List Nat) → Nat → Int32
  | [], _ => -1
  | w :: r, i => if hitW T s e w then nI i else fmW T s e r (i + 1)
theorem wa_words {τ : St} {T : Nat → Nat} {s e : Nat} (hw : r_wordsM (τ 14)) (he : e ≤ 600) (hs : s ≤ e) (hT : ∀ j, j < e → τ 13 j = nI (T j)) (hT2 : ∀ j, s ≤ j → j < e → T j < 256 ∧ ¬ T j = 32) : ∀ (ws : List (List Nat)) (O i f : Nat) (x : Int32), x + 1 = nI i → wordsM.drop (O + 1) = jnS ws → (∀ w ∈ ws, ∀ c ∈ w, ¬ c = 32) → (ws = [] → O = 133) → i + ws.length < 1000 → ws.length < f → fX11_wordAt_5 τ f (nI s) (nI e) x (nI O) = some (fmW T s e ws i) := by
  intro ws
  induction ws with
  | nil =>
    intro O i f x _ _ _ hO _ hf
    obtain ⟨f, rfl⟩ : ∃ g, f = g + 1 := ⟨f - 1, by omega⟩
    rw [wa5_s]; unfold fX11_wordAt_5B
    rw [hO rfl, if_pos (show (133 : Int32) ≤ nI 133 by decide)]; rfl
  | cons w r ih =>
    intro O i f x hx hd hv _ hi hf
    obtain ⟨f, rfl⟩ : ∃ g, f = g + 1 := ⟨f - 1, by omega⟩
    have hd' : wordsM.drop (O + 1) = w ++ 32 :: jnS r := hd
    have hl : wordsM.length - (O + 1) = w.length + 1 + (jnS r).length := by
      rw [← List.length_drop, hd', List.length_append, List.length_cons]; omega
    rw [wordsM_len] at hl
    have hw' : ∀ c ∈ w, ¬ c = 32 := hv w (by simp)
    have fu : w.length < FU := by rw [FU_eq]; omega
    rw [wa5_s]; unfold fX11_wordAt_5B
    have h1 := wa_word (s := s) (O := O) (i := i) (rec5 := fX11_wordAt_5 τ f) hw he hT hT2 w (jnS r) 0 FU hw' hd' (by omega) fu
    have h2 := wa_skip (rec5 := fX11_wordAt_5 τ f) (a := nI s) (b := nI e) (c := nI i) hw w (jnS r) (O + 1) FU hw' hd' fu
    rw [if_neg (show ¬ (133 : Int32) ≤ nI O from fun q => absurd ((nI_leI (a := 133) (by omega) (by omega)).mp q) (by omega)), hx, show (0 : Int32) = nI 0 from rfl, h1, h2]
    show _ = some (if hitW T s e w then nI i else fmW T s e r (i + 1))
    unfold hitW
    rw [Nat.add_zero]
    by_cases q : (matW T e s w && s + w.length == e) = true
    · rw [if_pos q, if_pos q]
    · rw [if_neg q, if_neg q]
      have dw := drop_all (o := O + 1) w hd'
      obtain ⟨d1, d2, d3⟩ := drop_s dw
      rw [wordsM_len] at d2
      refine ih (O + 1 + w.length) (i + 1) f (nI i) (nI_succ i).symm d3 (fun w' hw'' => hv w' (by simp [hw''])) ?_ (by simp at hi ⊢; omega) (by simp at hf; omega)
      intro hr
      subst hr
      have : (jnS []).length = 0 := rfl
      omega
theorem wordAt_M {τ : St} {T : Nat → Nat} {s e : Nat} (hw : r_wordsM (τ 14)) (he : e ≤ 600) (hs : s ≤ e) (hT : ∀ j, j < e → τ 13 j = nI (T j)) (hT2 : ∀ j, s ≤ j → j < e → T j < 256 ∧ ¬ T j = 32) : fX11_wordAt τ (nI s) (nI e) = some (fmW T s e WM 0) := by
  unfold fX11_wordAt
  exact wa_words hw he hs hT hT2 WM 0 0 FU (-1) (by decide) (by decide +kernel) (by decide +kernel) (by decide) (by decide) (by rw [FU_eq]; decide)
